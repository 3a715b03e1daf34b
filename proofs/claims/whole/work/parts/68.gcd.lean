/-! ===== least terms ===== -/
theorem half_step {a b n : Nat} (hb : b ≤ a) (h0 : 0 < b) (h : a * b < 2 ^ (n + 1)) : b * (a % b) < 2 ^ n := by
  have h1 := Nat.div_add_mod a b
  have h2 := Nat.mod_lt a h0
  have h3 : 1 ≤ a / b := (Nat.one_le_div_iff h0).mpr hb
  have h4 : b * 1 ≤ b * (a / b) := Nat.mul_le_mul_left b h3
  have h5 : (b + a % b) * b ≤ a * b := Nat.mul_le_mul_right b (by omega)
  have h6 : b * (a % b) ≤ b * b := Nat.mul_le_mul_left b (by omega)
  rw [Nat.add_mul, Nat.mul_comm (a % b) b] at h5
  rw [Nat.pow_succ] at h
  omega
theorem gcd_step {a b : Nat} : Nat.gcd b (a % b) = Nat.gcd a b := by
  rw [Nat.gcd_comm a b, Nat.gcd_rec b a, Nat.gcd_comm]
theorem m_gcd_ok {M : Mem} {Q : Int → Prop} : ∀ (b a : Nat), a < 2 ^ 60 → b < 2 ^ 60 → Q (Nat.gcd a b : Nat) → w_m_gcd M a b Q := by
  intro b a ha hb kk
  unfold w_m_gcd w_m_gcd_L0
  intro X hX
  have key : ∀ (m b a : Nat), b ≤ m → a < 2 ^ 60 → b < 2 ^ 60 → Q (Nat.gcd a b : Nat) → X a b := by
    intro m
    induction m with
    | zero =>
      intro b a hm ha hb kk
      have e : b = 0 := by omega
      subst e
      apply hX
      unfold w_m_gcd_B0
      rw [Nat.gcd_zero_right] at kk
      exact ⟨by decide, fun _ => kk, fun h => absurd rfl h⟩
    | succ m ih =>
      intro b a hm ha hb kk
      apply hX
      unfold w_m_gcd_B0
      refine ⟨by omega, fun h => ?_, fun h => ⟨by omega, ?_⟩⟩
      · have e : b = 0 := by omega
        subst e
        rw [Nat.gcd_zero_right] at kk
        exact kk
      · have h2 := Nat.mod_lt a (show 0 < b by omega)
        have e : (a : Int) % (b : Int) = ((a % b : Nat) : Int) := by push_cast; rfl
        rw [e]
        exact ih (a % b) b (by omega) hb (by omega) (by rw [gcd_step]; exact kk)
  exact key b b a (Nat.le_refl _) ha hb kk
