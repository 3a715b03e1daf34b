/-! ===== the class's least terms ===== -/
theorem leastTerms_ok {M : Mem} {u l : Nat} {x : Int} {Q : Int → Prop} (hu : u ≤ l) (hl : l < 2 ^ 30) (l0 : 0 < l) (hx : R32 x)
    (kk : Q ((if x = 0 then (u : Int) else l) / (Nat.gcd u l : Nat))) : w_S_leastTerms M u l x Q := by
  have g0 : 0 < Nat.gcd u l := Nat.gcd_pos_of_pos_right u l0
  have g1 : Nat.gcd u l ≤ l := Nat.le_of_dvd l0 (Nat.gcd_dvd_right u l)
  have J : w_S_leastTerms_j0 Q u l x (Nat.gcd u l : Nat) M := by
    unfold w_S_leastTerms_j0
    refine ⟨by omega, fun _ => ⟨hx, fun h => ?_, fun h => ?_⟩, fun h => absurd h (by omega)⟩
    · rw [if_neg h] at kk
      unfold w_S_leastTerms_j1
      exact ⟨by omega, kk⟩
    · rw [if_pos h] at kk
      unfold w_S_leastTerms_j1
      exact ⟨by omega, kk⟩
  unfold w_S_leastTerms w_S_leastTerms_L0
  intro X hX
  have key : ∀ (n i a b : Nat), n + i ≤ 100 → b ≤ a → a < 2 ^ 30 → a * b < 2 ^ n → Nat.gcd a b = Nat.gcd u l → X a b i := by
    intro n
    induction n with
    | zero =>
      intro i a b hi hb ha hab hg
      have e : b = 0 := by
        by_cases z : b = 0
        · exact z
        · have : 1 * 1 ≤ a * b := Nat.mul_le_mul (by omega) (by omega)
          omega
      subst e
      rw [Nat.gcd_zero_right] at hg
      rw [hg]
      apply hX
      unfold w_S_leastTerms_B0
      exact ⟨by omega, fun h => absurd h (by omega), fun _ => ⟨by decide, fun _ => J, fun h => absurd rfl h⟩⟩
    | succ n ih =>
      intro i a b hi hb ha hab hg
      apply hX
      unfold w_S_leastTerms_B0
      refine ⟨by omega, fun h => absurd h (by omega), fun _ => ⟨by omega, fun h => ?_, fun h => ⟨by omega, ?_⟩⟩⟩
      · have e : b = 0 := by omega
        subst e
        rw [Nat.gcd_zero_right] at hg
        rw [hg]
        exact J
      · have h2 := Nat.mod_lt a (show 0 < b by omega)
        have e : (a : Int) % (b : Int) = ((a % b : Nat) : Int) := by push_cast; rfl
        rw [e]
        exact ih (i + 1) b (a % b) (by omega) (by omega) (by omega) (half_step hb (by omega) hab) (by rw [gcd_step]; exact hg)
  refine key 60 0 l u (by decide) hu hl ?_ (Nat.gcd_comm l u)
  have h1 : l * u ≤ l * 2 ^ 30 := Nat.mul_le_mul_left l (by omega)
  have h2 : l * 2 ^ 30 < 2 ^ 30 * 2 ^ 30 := Nat.mul_lt_mul_of_pos_right hl (by decide)
  have h3 : (2 : Nat) ^ 30 * 2 ^ 30 = 2 ^ 60 := by rw [← Nat.pow_add]
  omega
