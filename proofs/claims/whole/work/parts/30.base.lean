/-! ===== small helps ===== -/
theorem t1n {A B : Prop} (a : A) : (-2147483648 ≤ (1 : Int) ∧ (1 : Int) ≤ 2147483647) ∧ ((¬ ((1 : Int) = 0) → A) ∧ ((1 : Int) = 0 → B)) := ⟨by decide, fun _ => a, fun h => absurd h (by decide)⟩
theorem t1e {A B : Prop} (b : B) : (-2147483648 ≤ (1 : Int) ∧ (1 : Int) ≤ 2147483647) ∧ (((1 : Int) = 0 → A) ∧ (¬ ((1 : Int) = 0) → B)) := ⟨by decide, fun h => absurd h (by decide), fun _ => b⟩
theorem t0n {A B : Prop} (b : B) : (-2147483648 ≤ (0 : Int) ∧ (0 : Int) ≤ 2147483647) ∧ ((¬ ((0 : Int) = 0) → A) ∧ ((0 : Int) = 0 → B)) := ⟨by decide, fun h => absurd rfl h, fun _ => b⟩
theorem t0e {A B : Prop} (a : A) : (-2147483648 ≤ (0 : Int) ∧ (0 : Int) ≤ 2147483647) ∧ (((0 : Int) = 0 → A) ∧ (¬ ((0 : Int) = 0) → B)) := ⟨by decide, fun _ => a, fun h => absurd rfl h⟩
abbrev R32 (z : Int) : Prop := -2147483648 ≤ z ∧ z ≤ 2147483647
theorem ms_s {M : Mem} {h : Nat} {i z : Int} : mset M h i z h i = z := by rw [mset_eq]; simp
theorem ms_n {M : Mem} {h : Nat} {i j z : Int} (e : j ≠ i) : mset M h i z h j = M h j := by rw [mset_eq]; simp [e]
/-! ===== the two halves of the memory picture one state; writes to it ===== -/
theorem agr.setA {T : List (Nat × Nat × Option Int)} {M B : Mem} (hM : agr T M B) (j h : Nat) {i z : Int} (c : T.all (fun q => if q.1 = j then decide (q.2 = (h, none)) else q.2.1 != h) = true) : agr T (mset M h i z) (mset B j i z) := by
  intro q hq
  have h1 := hM q hq
  have h2 := List.all_eq_true.mp c q hq
  by_cases e : q.1 = j
  · simp only [e, if_true, decide_eq_true_eq] at h2
    obtain ⟨q1, q2, q3⟩ := q
    simp only [Prod.mk.injEq] at h2
    obtain ⟨rfl, rfl⟩ := h2
    have e : q1 = j := e
    subst e
    show mset M q2 i z q2 = mset B q1 i z q1
    have h1 : M q2 = B q1 := h1
    rw [mset_eq, mset_eq, h1]
  · simp only [e, if_false, bne_iff_ne, ne_eq] at h2
    obtain ⟨q1, q2, q3⟩ := q
    cases q3 with
    | none => show mset M h i z q2 = mset B j i z q1; rw [mset_ne h2, mset_ne e]; exact h1
    | some k => show mset M h i z q2 k = mset B j i z q1 0; rw [mset_ne h2, mset_ne e]; exact h1
theorem agr.setF {T : List (Nat × Nat × Option Int)} {M B : Mem} (hM : agr T M B) (j h : Nat) {k z : Int} (c : T.all (fun q => if q.1 = j then decide (q.2 = (h, some k)) else (q.2.1 != h || (q.2.2 != none && q.2.2 != some k))) = true) : agr T (mset M h k z) (mset B j 0 z) := by
  intro q hq
  have h1 := hM q hq
  have h2 := List.all_eq_true.mp c q hq
  by_cases e : q.1 = j
  · simp only [e, if_true, decide_eq_true_eq] at h2
    obtain ⟨q1, q2, q3⟩ := q
    simp only [Prod.mk.injEq] at h2
    obtain ⟨rfl, rfl⟩ := h2
    have e : q1 = j := e
    subst e
    show mset M q2 k z q2 k = mset B q1 0 z q1 0
    rw [ms_s, ms_s]
  · simp only [e, if_false, Bool.or_eq_true, Bool.and_eq_true, bne_iff_ne, ne_eq] at h2
    obtain ⟨q1, q2, q3⟩ := q
    by_cases e2 : q2 = h
    · subst e2
      cases q3 with
      | none => rcases h2 with h2 | h2
                · exact absurd rfl h2
                · exact absurd rfl h2.1
      | some k' =>
        have hk : ¬ k' = k := by
          rcases h2 with h2 | h2
          · exact absurd rfl h2
          · exact fun z => h2.2 (by rw [z])
        show mset M q2 k z q2 k' = mset B j 0 z q1 0
        rw [ms_n hk, mset_ne e]
        exact h1
    · cases q3 with
      | none => show mset M h k z q2 = mset B j 0 z q1; rw [mset_ne e2, mset_ne e]; exact h1
      | some k' => show mset M h k z q2 k' = mset B j 0 z q1 0; rw [mset_ne e2, mset_ne e]; exact h1
theorem agr.skip {T : List (Nat × Nat × Option Int)} {M B : Mem} (hM : agr T M B) (h : Nat) {i z : Int} (c : T.all (fun q => q.2.1 != h) = true) : agr T (mset M h i z) B := by
  intro q hq
  have h1 := hM q hq
  have h2 := List.all_eq_true.mp c q hq
  simp only [bne_iff_ne, ne_eq] at h2
  obtain ⟨q1, q2, q3⟩ := q
  cases q3 with
  | none => show mset M h i z q2 = _; rw [mset_ne h2]; exact h1
  | some k => show mset M h i z q2 k = _; rw [mset_ne h2]; exact h1
theorem agr.skipF {T : List (Nat × Nat × Option Int)} {M B : Mem} (hM : agr T M B) (h : Nat) {k z : Int} (c : T.all (fun q => q.2.1 != h || (q.2.2 != none && q.2.2 != some k)) = true) : agr T (mset M h k z) B := by
  intro q hq
  have h1 := hM q hq
  have h2 := List.all_eq_true.mp c q hq
  simp only [Bool.or_eq_true, Bool.and_eq_true, bne_iff_ne, ne_eq] at h2
  obtain ⟨q1, q2, q3⟩ := q
  by_cases e2 : q2 = h
  · subst e2
    cases q3 with
    | none => rcases h2 with h2 | h2
              · exact absurd rfl h2
              · exact absurd rfl h2.1
    | some k' =>
      have hk : ¬ k' = k := by
        rcases h2 with h2 | h2
        · exact absurd rfl h2
        · exact fun z => h2.2 (by rw [z])
      show mset M q2 k z q2 k' = _
      rw [ms_n hk]
      exact h1
  · cases q3 with
    | none => show mset M h k z q2 = _; rw [mset_ne e2]; exact h1
    | some k' => show mset M h k z q2 k' = _; rw [mset_ne e2]; exact h1
theorem RB.set {B : Mem} (hB : RB B) (j : Nat) {i z : Int} (h1 : (sRng j).1 ≤ z) (h2 : z ≤ (sRng j).2) : RB (mset B j i z) := by
  intro j' hj i'
  by_cases e : j' = j
  · subst e
    rw [mset_eq]
    by_cases e2 : i' = i
    · simp [e2, h1, h2]
    · simp only [e2, if_false]; exact hB j' hj i'
  · rw [mset_ne e]; exact hB j' hj i'
/-! ===== scratch: all but the kept places may change ===== -/
def Ag (M N : Mem) : Prop := ∀ q ∈ kTab, match q.2 with
  | none => N q.1 = M q.1
  | some k => N q.1 k = M q.1 k
theorem Ag.rf {M : Mem} : Ag M M := by
  intro q _
  obtain ⟨h, k⟩ := q
  cases k <;> rfl
theorem Ag.trans {M N O : Mem} (h1 : Ag M N) (h2 : Ag N O) : Ag M O := by
  intro q hq
  have a := h1 q hq
  have b := h2 q hq
  obtain ⟨h, k⟩ := q
  cases k with
  | none => exact Eq.trans b a
  | some k => exact Eq.trans b a
theorem Ag.sA {M N : Mem} {h : Nat} {i z : Int} (hN : Ag M N) (c : kTab.all (fun q => q.1 != h) = true) : Ag M (mset N h i z) := by
  intro q hq
  have h1 := hN q hq
  have h2 := List.all_eq_true.mp c q hq
  simp only [bne_iff_ne, ne_eq] at h2
  obtain ⟨q1, q3⟩ := q
  cases q3 with
  | none => show mset N h i z q1 = _; rw [mset_ne h2]; exact h1
  | some k => show mset N h i z q1 k = _; rw [mset_ne h2]; exact h1
theorem Ag.sF {M N : Mem} {h : Nat} {i z : Int} (hN : Ag M N) (c : kTab.all (fun q => q.1 != h || (q.2 != none && q.2 != some i)) = true) : Ag M (mset N h i z) := by
  intro q hq
  have h1 := hN q hq
  have h2 := List.all_eq_true.mp c q hq
  simp only [Bool.or_eq_true, Bool.and_eq_true, bne_iff_ne, ne_eq] at h2
  obtain ⟨q1, q3⟩ := q
  by_cases e2 : q1 = h
  · subst e2
    cases q3 with
    | none => rcases h2 with h2 | h2
              · exact absurd rfl h2
              · exact absurd rfl h2.1
    | some k' =>
      have hk : ¬ k' = i := by
        rcases h2 with h2 | h2
        · exact absurd rfl h2
        · exact fun z => h2.2 (by rw [z])
      show mset N q1 i z q1 k' = _
      rw [ms_n hk]
      exact h1
  · cases q3 with
    | none => show mset N h i z q1 = _; rw [mset_ne e2]; exact h1
    | some k' => show mset N h i z q1 k' = _; rw [mset_ne e2]; exact h1
theorem Ag.cp {M N : Mem} {hs hd : Nat} {sp dp n : Int} (hN : Ag M N) (c : kTab.all (fun q => q.1 != hd) = true) : Ag M (mcpy N hs sp hd dp n) := by
  intro q hq
  have h1 := hN q hq
  have h2 := List.all_eq_true.mp c q hq
  simp only [bne_iff_ne, ne_eq] at h2
  obtain ⟨q1, q3⟩ := q
  have e : mcpy N hs sp hd dp n q1 = N q1 := if_neg h2
  cases q3 with
  | none => show mcpy N hs sp hd dp n q1 = _; rw [e]; exact h1
  | some k => show mcpy N hs sp hd dp n q1 k = _; rw [e]; exact h1
theorem agr.ag {T : List (Nat × Nat × Option Int)} {M N B : Mem} (hT : T.all (fun q => decide ((q.2.1, q.2.2) ∈ kTab)) = true) (h : Ag M N) (hM : agr T M B) : agr T N B := by
  intro q hq
  have h1 := hM q hq
  have h2 := of_decide_eq_true (List.all_eq_true.mp hT q hq)
  have h3 := h _ h2
  obtain ⟨q1, q2, q3⟩ := q
  cases q3 with
  | none => exact Eq.trans h3 h1
  | some k => exact Eq.trans h3 h1
theorem CB.ag {M N B : Mem} (h : Ag M N) (hM : CB M B) : CB N B := agr.ag (by decide) h hM
theorem MB.ag {M N B : Mem} (h : Ag M N) (hM : MB M B) : MB N B := agr.ag (by decide) h hM
