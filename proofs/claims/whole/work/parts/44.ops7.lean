theorem us_amt : ∀ n, n < 32 → (((nI n).toUInt32 &&& Int32.toUInt32 31).toBitVec % 32).toNat = n := by decide +kernel
theorem bUshr_nat {x k : Nat} (hx : x < 2147483648) (hk : k < 32) : bUshr x k = (x / 2 ^ k : Nat) := by
  unfold bUshr
  rw [ofI_nI, ofI_nI, pk_ushrN (by omega) _ k (us_amt k hk)]
  exact nI_toInt (Nat.lt_of_le_of_lt (Nat.div_le_self _ _) hx)
theorem bits_ok {x : Nat} (hx : x < 65536) : bAnd (sw5 (sw4 (sw3 (sw2 (sw1 (x : Int)))))) 63 = (pop16 x : Nat) := by
  have h := chk_at x hx
  unfold chk at h
  simp only [Bool.and_eq_true, Nat.beq_eq, Nat.ble_eq] at h
  obtain ⟨h0, h1, h2, h3, h4, h5⟩ := h
  have e1 : sw1 (x : Int) = (sN1 x : Nat) := by
    unfold sw1 sN1
    have a := bUshr_nat (x := x) (k := 1) (by omega) (by decide)
    have b := bAnd_nat (x := x / 2 ^ 1) (y := 1431655765) (by omega) (by decide)
    rw [show ((1 : Nat) : Int) = 1 from rfl] at a
    rw [show ((1431655765 : Nat) : Int) = 1431655765 from rfl] at b
    rw [a, b, show (2 : Nat) ^ 1 = 2 from rfl]
    omega
  have e2 : sw2 (sN1 x : Nat) = (sN2 (sN1 x) : Nat) := by
    unfold sw2 sN2
    have a := bUshr_nat (x := sN1 x) (k := 2) (by omega) (by decide)
    have b := bAnd_nat (x := sN1 x / 2 ^ 2) (y := 858993459) (by omega) (by decide)
    have d := bAnd_nat (x := sN1 x) (y := 858993459) (by omega) (by decide)
    rw [show ((2 : Nat) : Int) = 2 from rfl] at a
    rw [show ((858993459 : Nat) : Int) = 858993459 from rfl] at b d
    rw [a, b, d, show (2 : Nat) ^ 2 = 4 from rfl]
    omega
  have e3 : sw3 (sN2 (sN1 x) : Nat) = (sN3 (sN2 (sN1 x)) : Nat) := by
    unfold sw3 sN3
    have a := bUshr_nat (x := sN2 (sN1 x)) (k := 4) (by omega) (by decide)
    rw [show ((4 : Nat) : Int) = 4 from rfl] at a
    have b := bAnd_nat (x := sN2 (sN1 x) + sN2 (sN1 x) / 2 ^ 4) (y := 252645135) (by omega) (by decide)
    rw [show ((252645135 : Nat) : Int) = 252645135 from rfl] at b
    rw [a, ← Int.natCast_add, b]
  have e4 : sw4 (sN3 (sN2 (sN1 x)) : Nat) = (sN4 (sN3 (sN2 (sN1 x))) : Nat) := by
    unfold sw4 sN4
    have a := bUshr_nat (x := sN3 (sN2 (sN1 x))) (k := 8) (by omega) (by decide)
    rw [show ((8 : Nat) : Int) = 8 from rfl] at a
    rw [a, ← Int.natCast_add]
  have e5 : sw5 (sN4 (sN3 (sN2 (sN1 x))) : Nat) = (sN5 (sN4 (sN3 (sN2 (sN1 x)))) : Nat) := by
    unfold sw5 sN5
    have a := bUshr_nat (x := sN4 (sN3 (sN2 (sN1 x)))) (k := 16) (by omega) (by decide)
    rw [show ((16 : Nat) : Int) = 16 from rfl] at a
    rw [a, ← Int.natCast_add]
  rw [e1, e2, e3, e4, e5]
  have f := bAnd_nat (x := sN5 (sN4 (sN3 (sN2 (sN1 x))))) (y := 63) (by unfold sN5; omega) (by decide)
  rw [show ((63 : Nat) : Int) = 63 from rfl] at f
  rw [f, h1]
/-! sums of rows -/
def sumI (f : Int → Int) : Nat → Int
  | 0 => 0
  | n + 1 => sumI f n + f n
theorem sumI_rng {f : Int → Int} {A : Int} (h : ∀ i, 0 ≤ f i ∧ f i ≤ A) (hA : 0 ≤ A) : ∀ n : Nat, 0 ≤ sumI f n ∧ sumI f n ≤ A * n
  | 0 => by simp [sumI]
  | n + 1 => by
    have := sumI_rng h hA n
    have := h n
    have e : A * ((n + 1 : Nat) : Int) = A * n + A := by
      rw [show ((n + 1 : Nat) : Int) = (n : Int) + 1 from rfl, Int.mul_add, Int.mul_one]
    unfold sumI
    omega
theorem sumI_cut {f : Int → Int} {m : Nat} : ∀ n : Nat, m ≤ n → (∀ i : Nat, m ≤ i → i < n → f i = 0) → sumI f n = sumI f m
  | 0, h, _ => by rw [show m = 0 by omega]
  | n + 1, h, hz => by
    by_cases e : m = n + 1
    · rw [e]
    · show sumI f n + f n = _
      rw [hz n (by omega) (by omega), sumI_cut n (by omega) (fun i a b => hz i a (by omega)), Int.add_zero]
set_option maxRecDepth 100000 in
theorem pop_sum {M B : Mem} {x : Nat} (hS : StC M B) (hx : M 5 6 = x) : (pop16 x : Int) = sumI (B 22) 16 := by
  have h : ∀ i, i < 16 → B 22 (i : Nat) = (x : Int) / 2 ^ i % 2 := fun i hi => by rw [← hx]; exact (hS i hi).symm
  have a0 := h 0 (by decide); have a1 := h 1 (by decide); have a2 := h 2 (by decide); have a3 := h 3 (by decide)
  have a4 := h 4 (by decide); have a5 := h 5 (by decide); have a6 := h 6 (by decide); have a7 := h 7 (by decide)
  have a8 := h 8 (by decide); have a9 := h 9 (by decide); have a10 := h 10 (by decide); have a11 := h 11 (by decide)
  have a12 := h 12 (by decide); have a13 := h 13 (by decide); have a14 := h 14 (by decide); have a15 := h 15 (by decide)
  simp only [sumI]
  rw [a0, a1, a2, a3, a4, a5, a6, a7, a8, a9, a10, a11, a12, a13, a14, a15]
  unfold pop16
  push_cast
  simp only [Int.reducePow, Int.zero_add, Int.ediv_one]
theorem sumOf_ok {M B : Mem} {Q : Int → Prop} (hC : CB M B) (hR : RB B) (k : Q (sumI (B 2) 6)) : w_S_sumOf M Q := by
  unfold w_S_sumOf w_S_sumOf_L0
  intro X hX
  have key : ∀ d i : Nat, i + d = 6 → X (sumI (B 2) i) i := by
    intro d
    induction d with
    | zero =>
      intro i hi
      have hi : i = 6 := by omega
      subst hi
      apply hX
      unfold w_S_sumOf_B0
      exact ⟨by decide, by decide, fun _ => k, fun h => absurd (by decide) h⟩
    | succ d ih =>
      intro i hi
      have ih := ih (i + 1) (by omega)
      apply hX
      unfold w_S_sumOf_B0
      refine ⟨by omega, by decide, fun h => absurd h (by omega), fun _ => ⟨by omega, ?_⟩⟩
      (intro a ea _ _; have ea : a = M 21 i := ea)
      rw [ea, c_layers hC]
      exact ih
  exact key 6 0 (by omega)
theorem sumOf1_ok {M B : Mem} {Q : Int → Prop} (hC : CB M B) (hR : RB B) (k : Q (sumI (B 8) 6)) : w_S_sumOf_1 M Q := by
  unfold w_S_sumOf_1 w_S_sumOf_1_L0
  intro X hX
  have key : ∀ d i : Nat, i + d = 6 → X (sumI (B 8) i) i := by
    intro d
    induction d with
    | zero =>
      intro i hi
      have hi : i = 6 := by omega
      subst hi
      apply hX
      unfold w_S_sumOf_1_B0
      exact ⟨by decide, by decide, fun _ => k, fun h => absurd (by decide) h⟩
    | succ d ih =>
      intro i hi
      have ih := ih (i + 1) (by omega)
      apply hX
      unfold w_S_sumOf_1_B0
      refine ⟨by omega, by decide, fun h => absurd h (by omega), fun _ => ⟨by omega, ?_⟩⟩
      (intro a ea _ _; have ea : a = M 28 i := ea)
      rw [ea, c_beats hC]
      exact ih
  exact key 6 0 (by omega)
/-- what count answers -/
noncomputable def cntR (B : Mem) (w : Int) : Int := if w = 0 then sumI (B 2) 6 else if w = 1 then B 20 0 else if w = 2 then sumI (B 8) 6 else if w = 3 then B 11 0 else if w = 4 then sumI (B 22) 16 else if w = 5 then B 23 0 else if w = 6 then B 27 0 else if w = 7 then B 32 0 else if w = 8 then B 38 0 else -1002
theorem m_count_ok {M B : Mem} {w : Int} {Q : Int → Prop} (hM : MB M B) (hR : RB B) (hW : WF B) (hw : R32 w) (k : Q (cntR B w)) : w_m_count M w Q := by
  have hsh := b_shakes hR 0
  have hwo := b_words hR 0
  have L2 : w_m_count_L2 Q w (sumI (B 2) 6) (sumI (B 22) 16) M 0 0 := by
    unfold w_m_count_L2
    intro X hX
    have e6 : sumI (B 8) 6 = sumI (B 8) (B 20 0).toNat := sumI_cut 6 (by omega) (fun i a b => hW.2.2.2.2.2.2.2.2.2.2.2.2.1 i (by omega) (by omega))
    have key : ∀ d i : Nat, i + d = (B 20 0).toNat → X (sumI (B 8) i) i := by
      intro d
      induction d with
      | zero =>
        intro i hi
        have hi : i = (B 20 0).toNat := by omega
        apply hX
        unfold w_m_count_B2
        (intro a ea _ _; have ea : a = M 12 8 := ea)
        rw [m_shakes hM] at ea
        refine ⟨by omega, fun _ => ⟨hw, fun h => ?_, fun h => ?_, fun h => ?_, fun h => ?_, fun h => ?_, fun h => ?_, fun h => ?_, fun h => ?_, fun h => ?_, fun h => ?_⟩, fun h => absurd h (by omega)⟩
        · have e : cntR B w = -1002 := by unfold cntR; rw [if_neg, if_neg, if_neg, if_neg, if_neg, if_neg, if_neg, if_neg, if_neg] <;> omega
          rw [← e]; exact k
        · subst h; exact k
        · subst h
          (intro b eb _ _; have eb : b = M 12 8 := eb)
          rw [eb, m_shakes hM]; exact k
        · subst h
          have e : cntR B 2 = sumI (B 8) i := e6.trans (by rw [hi])
          rw [← e]; exact k
        · subst h
          (intro b eb _ _; have eb : b = M 12 26 := eb)
          rw [eb, m_words hM]; exact k
        · subst h; exact k
        · subst h
          (intro b eb _ _; have eb : b = M 12 39 := eb)
          rw [eb, m_houses hM]; exact k
        · subst h
          (intro b eb _ _; have eb : b = M 12 43 := eb)
          rw [eb, m_tanks hM]; exact k
        · subst h
          (intro b eb _ _; have eb : b = M 12 50 := eb)
          rw [eb, m_works hM]; exact k
        · subst h
          (intro b eb _ _; have eb : b = M 12 60 := eb)
          rw [eb, m_tlen hM]; exact k
      | succ d ih =>
        intro i hi
        have ih := ih (i + 1) (by omega)
        apply hX
        unfold w_m_count_B2
        (intro a ea _ _; have ea : a = M 12 8 := ea)
        rw [m_shakes hM] at ea
        refine ⟨by omega, fun h => absurd h (by omega), fun _ => ⟨by omega, ?_⟩⟩
        (intro b eb _ _; have eb : b = M 62 i := eb)
        rw [eb, m_beats hM]
        exact ih
    exact key (B 20 0).toNat 0 (by omega)
  have L1 : w_m_count_L1 Q w (sumI (B 2) 6) M 0 0 := by
    unfold w_m_count_L1
    intro X hX
    have e16 : sumI (B 22) 16 = sumI (B 22) (B 11 0).toNat := sumI_cut 16 (by omega) (fun i a b => hW.2.2.2.2.2.2.2.2.2.2.2.1 i (by omega) (by omega))
    have key : ∀ d i : Nat, i + d = (B 11 0).toNat → X (sumI (B 22) i) i := by
      intro d
      induction d with
      | zero =>
        intro i hi
        have hi : i = (B 11 0).toNat := by omega
        apply hX
        unfold w_m_count_B1
        (intro a ea _ _; have ea : a = M 12 26 := ea)
        rw [m_words hM] at ea
        refine ⟨by omega, fun _ => ?_, fun h => absurd h (by omega)⟩
        rw [hi, ← e16]
        exact L2
      | succ d ih =>
        intro i hi
        have ih := ih (i + 1) (by omega)
        apply hX
        unfold w_m_count_B1
        (intro a ea _ _; have ea : a = M 12 26 := ea)
        rw [m_words hM] at ea
        refine ⟨by omega, fun h => absurd h (by omega), fun _ => ⟨by omega, ?_⟩⟩
        (intro b eb _ _; have eb : b = M 80 i := eb)
        rw [m_struck hM] at eb
        refine ⟨fun h => ?_, fun h => ?_⟩
        · have e : sumI (B 22) (i + 1) = sumI (B 22) i + 0 := by show _ + B 22 i = _; omega
          rw [← e]; exact ih
        · have e : sumI (B 22) (i + 1) = sumI (B 22) i + 1 := by show _ + B 22 i = _; omega
          rw [← e]; exact ih
    exact key (B 11 0).toNat 0 (by omega)
  unfold w_m_count w_m_count_L0
  intro X hX
  have key : ∀ d i : Nat, i + d = 6 → X (sumI (B 2) i) i := by
    intro d
    induction d with
    | zero =>
      intro i hi
      have hi : i = 6 := by omega
      subst hi
      apply hX
      unfold w_m_count_B0
      exact ⟨by decide, fun _ => L1, fun h => absurd (by decide) h⟩
    | succ d ih =>
      intro i hi
      have ih := ih (i + 1) (by omega)
      apply hX
      unfold w_m_count_B0
      refine ⟨by omega, fun h => absurd h (by omega), fun _ => ⟨by omega, ?_⟩⟩
      (intro a ea _ _; have ea : a = M 55 i := ea)
      rw [ea, m_layers hM]
      exact ih
  exact key 6 0 (by omega)
theorem both_count {M B : Mem} {w : Int} {Q : Int → Int → Prop} (I : Inv M B) (hw : R32 w) (k : ∀ r : Int, Q r r) : w_S_count M w (fun r => w_m_count M w (fun r2 => Q r r2)) := by
  obtain ⟨hC, hM, hR, hW, hS, hCC, hCM⟩ := id I
  have mm : ∀ r : Int, r = cntR B w → w_m_count M w (fun r2 => Q r r2) := fun r e => m_count_ok hM hR hW hw (by rw [e]; exact k _)
  unfold w_S_count
  refine ⟨hw, fun h => ?_, fun h => ?_, fun h => ?_, fun h => ?_, fun h => ?_, fun h => ?_, fun h => ?_, fun h => ?_, fun h => ?_, fun h => ?_⟩
  · refine mm _ ?_
    unfold cntR; rw [if_neg, if_neg, if_neg, if_neg, if_neg, if_neg, if_neg, if_neg, if_neg] <;> omega
  · subst h; exact sumOf_ok hC hR (mm _ rfl)
  · subst h
    (intro a ea _ _; have ea : a = M 3 3 := ea)
    exact mm _ (by rw [ea, c_shakes hC]; rfl)
  · subst h; exact sumOf1_ok hC hR (mm _ rfl)
  · subst h
    (intro a ea _ _; have ea : a = M 5 5 := ea)
    exact mm _ (by rw [ea, c_words hC]; rfl)
  · subst h
    (intro a ea _ _; have ea : a = M 5 6 := ea)
    unfold w_bitCount
    obtain ⟨x, hx⟩ : ∃ x : Nat, M 5 6 = x := ⟨(M 5 6).toNat, by omega⟩
    rw [ea, hx, bits_ok (by omega)]
    exact mm _ (pop_sum hS hx)
  · subst h
    (intro a ea _ _; have ea : a = M 6 3 := ea)
    exact mm _ (by rw [ea, c_houses hC]; rfl)
  · subst h
    (intro a ea _ _; have ea : a = M 7 4 := ea)
    exact mm _ (by rw [ea, c_tanks hC]; rfl)
  · subst h
    (intro a ea _ _; have ea : a = M 8 5 := ea)
    exact mm _ (by rw [ea, c_works hC]; rfl)
  · subst h
    (intro a ea _ _; have ea : a = M 11 1 := ea)
    exact mm _ (by rw [ea, c_tlen hC]; rfl)
