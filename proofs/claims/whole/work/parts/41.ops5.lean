-- strike
theorem CB.other {M B : Mem} {y n z : Int} (hC : CB M B) : CB (mset M 5 6 y) (mset B 22 n z) := by
  have h1 : CB (mset M 5 6 y) B := hC.skipF 5 (by decide)
  intro q hq
  have h2 := h1 q hq
  have h3 : q.1 ≠ 22 := by clear h2; revert q; decide
  obtain ⟨q1, q2, q3⟩ := q
  cases q3 with
  | none => show _ = mset B 22 n z q1; rw [mset_ne h3]; exact h2
  | some k => show _ = mset B 22 n z q1 0; rw [mset_ne h3]; exact h2
theorem b01 {z : Int} (h : 0 ≤ z ∧ z ≤ 1) : z = 0 ∨ z = 1 := by omega
theorem StC.set {M B : Mem} {x y k : Nat} {z : Int} (hS : StC M B) (hx : M 5 6 = x) (hk : k < 16) (hz : 0 ≤ z ∧ z ≤ 1) (hy : ∀ j, j < 16 → y.testBit j = if j = k then decide (z = 1) else x.testBit j) : StC (mset M 5 6 y) (mset B 22 k z) := by
  intro i hi
  have e1 : (mset M 5 6 (y : Int)) 5 6 = y := ms_s
  rw [e1, bit_nat, hy i hi]
  by_cases e : i = k
  · subst e
    rw [ms_s]
    rcases b01 hz with rfl | rfl <;> simp
  · have e2 : ¬ (i : Int) = k := fun z => e (Int.ofNat_inj.mp z)
    rw [ms_n e2, ← hS i hi, hx, bit_nat]
    simp [e]
theorem both_strike {M B : Mem} {i z : Int} {Q : Int → Int → Mem → Prop} (I : Inv M B) (hi : R32 i) (hz : 0 ≤ z ∧ z ≤ 1) (k : ∀ (r : Int) (N B' : Mem), Inv N B' → Q r r N) : w_S_strike M i z (fun r M1 => w_m_strike M1 i z (fun r2 M2 => Q r r2 M2)) := by
  obtain ⟨hC, hM, hR, hW, hS, hCC, hCM⟩ := id I
  have hn := b_words hR 0
  unfold w_S_strike
  refine hasWord_ok hC hi (fun h => ?_) (fun i0 i1 => ?_)
  · (first | refine t0n ?_ | refine t0e ?_)
    unfold w_m_strike
    refine m_isWord_ok hM hi (fun _ => ?_) (fun a b => absurd ⟨a, b⟩ h)
    (first | refine t0n ?_ | refine t0e ?_)
    exact k _ _ _ I
  (first | refine t1n ?_ | refine t1e ?_)
  obtain ⟨n, rfl⟩ : ∃ n : Nat, i = n := ⟨i.toNat, by omega⟩
  (intro a ea _ _; have ea : a = M 5 6 := ea)
  obtain ⟨x, hx⟩ : ∃ x : Nat, M 5 6 = x := ⟨(M 5 6).toNat, by omega⟩
  have hxl : x < 65536 := by omega
  have was : bAnd (bShr a n) 1 = B 22 n := by
    rw [ea, hx, bit_and1 (by omega) (by omega), ← hx]
    exact hS n (by omega)
  have hst := b_struck hR n
  have mm : ∀ y : Nat, (∀ j, j < 16 → y.testBit j = if j = n then decide (z = 1) else x.testBit j) → w_m_strike (mset M 5 6 y) n z (fun r2 M2 => Q (B 22 n) r2 M2) := by
    intro y hy
    have hk : sme kM M (mset M 5 6 y) := sme.rf.s (by decide)
    have hM1 := hM.km hk
    have H : Half (mset M 5 6 y) B (mset B 22 n z) := ⟨CB.other hC, hM1, hR.set 22 hz.1 hz.2, ?_, hS.set hx (by omega) hz hy, CC.cg (show CC _ B from hCC) (cut_hi (by decide))⟩
    · have fin : ∀ r : Int, r = B 22 n → w_m_strike_j0 (fun r2 M2 => Q (B 22 n) r2 M2) n z r (mset M 5 6 y) := by
        intro r er
        unfold w_m_strike_j0
        refine And.intro ⟨by omega, by omega⟩ ?_
        (intro O eO; subst eO)
        refine m_change_B (fun N hN K f0 fo => ?_)
        rw [er]
        exact k _ _ _ (H.inv ((sme.rf.s (by decide)).trans K) (hN _ (hM1.setA 22 80 (by decide))) (CM.none f0))
      unfold w_m_strike
      refine m_isWord_ok hM1 hi (fun c => absurd ⟨i0, i1⟩ c) (fun _ _ => ?_)
      (first | refine t1n ?_ | refine t1e ?_)
      refine ⟨by omega, ?_⟩
      (intro d ed _ _; have ed : d = M 80 n := ed)
      rw [m_struck hM] at ed
      exact ⟨fun h => fin 0 (by omega), fun h => fin 1 (by omega)⟩
    · obtain ⟨h1, h2, h3, h4, h5, h6, h7, h8, h9, h10, h11, h12, h13⟩ := hW
      refine ⟨h1, h2, h3, h4, h5, h6, h7, h8, h9, h10, h11, fun i i2 i3 => ?_, h13⟩
      have i2 : B 11 0 ≤ i := i2
      rw [ms_n (by omega)]
      exact h12 i i2 i3
  refine ⟨by omega, fun h => ?_, fun h => ?_⟩
  · (intro b eb _ _; have eb : b = M 5 6 := eb)
    rw [was, eb, hx]
    obtain ⟨y, e1, e2, e3⟩ := bClr (x := x) (k := n) hxl (by omega)
    rw [e1]
    unfold w_S_strike_j0
    refine And.intro (by omega) ?_
    (intro N eN; subst eN)
    refine mm y (fun j hj => ?_)
    rw [e3 j]
    by_cases e : j = n
    · subst e; simp [h]
    · simp [e]
  · (intro b eb _ _; have eb : b = M 5 6 := eb)
    rw [was, eb, hx]
    obtain ⟨y, e1, e2, e3⟩ := bOr_set (x := x) (k := n) hxl (by omega)
    rw [e1]
    unfold w_S_strike_j0
    refine And.intro (by omega) ?_
    (intro N eN; subst eN)
    refine mm y (fun j hj => ?_)
    rw [e3 j]
    by_cases e : j = n
    · subst e; simp; omega
    · simp [e]
