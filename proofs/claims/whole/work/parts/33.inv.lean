/-! ===== one half stays while the other moves ===== -/
def sme (T : List (Nat × Option Int)) (M N : Mem) : Prop := ∀ q ∈ T, match q.2 with
  | none => N q.1 = M q.1
  | some k => N q.1 k = M q.1 k
def kM : List (Nat × Option Int) := kTab.filter fun q => q.1 == 12 || decide (53 ≤ q.1)
def kC : List (Nat × Option Int) := kTab.filter fun q => !(q.1 == 12 || decide (53 ≤ q.1))
theorem sme.rf {T : List (Nat × Option Int)} {M : Mem} : sme T M M := by
  intro q _
  obtain ⟨h, k⟩ := q
  cases k <;> rfl
theorem sme.trans {T : List (Nat × Option Int)} {M N O : Mem} (h1 : sme T M N) (h2 : sme T N O) : sme T M O := by
  intro q hq
  have a := h1 q hq
  have b := h2 q hq
  obtain ⟨h, k⟩ := q
  cases k with
  | none => exact Eq.trans b a
  | some k => exact Eq.trans b a
theorem sme.s {T : List (Nat × Option Int)} {M N : Mem} {h : Nat} {i z : Int} (hN : sme T M N) (c : T.all (fun q => q.1 != h) = true) : sme T M (mset N h i z) := by
  intro q hq
  have h1 := hN q hq
  have h2 := List.all_eq_true.mp c q hq
  simp only [bne_iff_ne, ne_eq] at h2
  obtain ⟨q1, q3⟩ := q
  cases q3 with
  | none => show mset N h i z q1 = _; rw [mset_ne h2]; exact h1
  | some k => show mset N h i z q1 k = _; rw [mset_ne h2]; exact h1
theorem sme.of {T : List (Nat × Option Int)} {M N : Mem} (h : ∀ q ∈ T, N q.1 = M q.1) : sme T M N := by
  intro q hq
  have h1 := h q hq
  obtain ⟨q1, q3⟩ := q
  cases q3 with
  | none => exact h1
  | some k => exact congrFun h1 k
theorem ag_sme {M N : Mem} {p : Nat × Option Int → Bool} (h : Ag M N) : sme (kTab.filter p) M N := fun q hq => h q (List.mem_filter.mp hq).1
theorem ag_kM {M N : Mem} (h : Ag M N) : sme kM M N := ag_sme h
theorem ag_kC {M N : Mem} (h : Ag M N) : sme kC M N := ag_sme h
theorem agr.sm {T : List (Nat × Nat × Option Int)} {S : List (Nat × Option Int)} {M N B : Mem} (hT : T.all (fun q => decide ((q.2.1, q.2.2) ∈ S)) = true) (h : sme S M N) (hM : agr T M B) : agr T N B := by
  intro q hq
  have h1 := hM q hq
  have h2 := of_decide_eq_true (List.all_eq_true.mp hT q hq)
  have h3 := h _ h2
  obtain ⟨q1, q2, q3⟩ := q
  cases q3 with
  | none => exact Eq.trans h3 h1
  | some k => exact Eq.trans h3 h1
theorem CB.kc {M N B : Mem} (h : sme kC M N) (hM : CB M B) : CB N B := agr.sm (by decide) h hM
theorem MB.km {M N B : Mem} (h : sme kM M N) (hM : MB M B) : MB N B := agr.sm (by decide) h hM
theorem kc_struck {M N : Mem} (h : sme kC M N) : N 5 6 = M 5 6 := h ((5, some 6)) (by decide)
theorem kc_looked {M N : Mem} (h : sme kC M N) : N 5 9 = M 5 9 := h ((5, some 9)) (by decide)
theorem kc_choices {M N : Mem} (h : sme kC M N) : N 36 = M 36 := h ((36, none)) (by decide)
theorem kc_against {M N : Mem} (h : sme kC M N) : N 37 = M 37 := h ((37, none)) (by decide)
theorem km_isFound {M N : Mem} (h : sme kM M N) : N 66 = M 66 := h ((66, none)) (by decide)
theorem km_keptMany {M N : Mem} (h : sme kM M N) : N 67 = M 67 := h ((67, none)) (by decide)
theorem km_kept {M N : Mem} (h : sme kM M N) : N 82 = M 82 := h ((82, none)) (by decide)
theorem StC.kc {M N B : Mem} (h : sme kC M N) (hM : StC M B) : StC N B := fun i hi => by rw [kc_struck h]; exact hM i hi
theorem CC.kc {M N B : Mem} (h : sme kC M N) (hM : CC M B) : CC N B := fun c hc hl => by
  rw [kc_looked h] at hl
  rw [kc_choices h, kc_against h]
  exact hM c hc hl
theorem CM.km {M N B : Mem} (h : sme kM M N) (hM : CM M B) : CM N B := fun c h0 hc hl => by
  rw [km_isFound h] at hl
  rw [km_keptMany h, km_kept h]
  exact hM c h0 hc hl
theorem Inv.ag {M N B : Mem} (h : Ag M N) (I : Inv M B) : Inv N B :=
  ⟨I.1.kc (ag_kC h), I.2.1.km (ag_kM h), I.2.2.1, I.2.2.2.1, I.2.2.2.2.1.kc (ag_kC h), I.2.2.2.2.2.1.kc (ag_kC h), I.2.2.2.2.2.2.km (ag_kM h)⟩
/-- no look stands -/
theorem CC.none {M B : Mem} (h : M 5 9 = 0) : CC M B := fun c _ hl => by
  rw [h] at hl
  simp at hl
theorem CM.none {M B : Mem} (h : ∀ c : Int, 0 ≤ c → c < 6 → M 66 c = 0) : CM M B := fun c h0 hc hl => by
  rw [h c h0 hc] at hl
  simp at hl
theorem CC.cg {M B B' : Mem} (h : CC M B) (e : cut B' = cut B) : CC M B' := fun c hc hl => by rw [e]; exact h c hc hl
/-- a slot beyond the cut -/
theorem cut_hi {B : Mem} {j : Nat} {i z : Int} (h : ¬ j < 20) : cut (mset B j i z) = cut B := by
  funext a
  unfold cut
  by_cases ha : a < 20
  · rw [if_pos ha, if_pos ha, mset_ne (show a ≠ j by omega)]
  · rw [if_neg ha, if_neg ha]
theorem WF.cg {B B' : Mem} (hW : WF B) (e1 : B' 2 = B 2) (e2 : B' 5 = B 5) (e3 : B' 10 = B 10) (e4 : B' 11 = B 11) (e5 : B' 12 = B 12) (e6 : B' 13 = B 13) (e7 : B' 14 = B 14) (e8 : B' 20 = B 20) (e9 : B' 27 = B 27) (e10 : B' 28 = B 28) (e11 : B' 29 = B 29) (e12 : B' 22 = B 22) (e13 : B' 8 = B 8) (e14 : B' 7 = B 7) (e15 : B' 23 = B 23) (e16 : B' 25 = B 25) : WF B' := by
  unfold WF
  rw [e1, e2, e3, e4, e5, e6, e7, e8, e9, e10, e11, e12, e13, e14, e15, e16]
  exact hW
/-- the model forgets its looks -/
theorem m_change_ok {M : Mem} {Q : Mem → Prop} (k : ∀ N : Mem, (∀ c : Int, 0 ≤ c → c < 6 → N 66 c = 0) → (∀ h, h ≠ 66 → N h = M h) → Q N) : w_m_change M Q := by
  unfold w_m_change w_m_change_L0
  intro X hX
  have key : ∀ (d i : Nat) (N : Mem), i + d = 6 → (∀ c : Int, 0 ≤ c → c < i → N 66 c = 0) → (∀ h, h ≠ 66 → N h = M h) → X i N := by
    intro d
    induction d with
    | zero =>
      intro i N hi h1 h2
      apply hX
      unfold w_m_change_B0
      exact ⟨by omega, fun _ => k N (fun c a b => h1 c a (by omega)) h2, fun h => absurd h (by omega)⟩
    | succ d ih =>
      intro i N hi h1 h2
      apply hX
      unfold w_m_change_B0
      refine ⟨by omega, fun h => absurd h (by omega), fun _ => ⟨by omega, ?_⟩⟩
      (intro N1 eN1; subst eN1)
      refine ih (i + 1) _ (by omega) (fun c a b => ?_) (fun h hh => by rw [mset_ne hh]; exact h2 h hh)
      by_cases e : c = i
      · rw [e, ms_s]
      · rw [ms_n e]; exact h1 c a (by omega)
  exact key 6 0 M (by omega) (fun c a b => absurd b (by omega)) (fun _ _ => rfl)
theorem forget_ok {M : Mem} {Q : Mem → Prop} (k : Q (mset M 5 9 0)) : w_Words_forget M Q := by
  unfold w_Words_forget
  (intro N eN; subst eN)
  exact k
theorem m_change_B {M : Mem} {Q : Mem → Prop} (k : ∀ N : Mem, (∀ B, MB M B → MB N B) → sme kC M N → (∀ c : Int, 0 ≤ c → c < 6 → N 66 c = 0) → (∀ h, h ≠ 66 → N h = M h) → Q N) : w_m_change M Q := by
  refine m_change_ok (fun N f0 fo => k N (fun B hM q hq => ?_) (sme.of (fun q hq => fo q.1 (by revert q; decide))) f0 fo)
  have h1 := hM q hq
  have h2 := fo q.2.1 (by clear h1 hM; revert q; decide)
  obtain ⟨q1, q2, q3⟩ := q
  cases q3 with
  | none => exact Eq.trans h2 h1
  | some z => exact Eq.trans (congrFun h2 z) h1
/-- behind the class's half: the class pictures B', the model still B -/
def Half (M B B' : Mem) : Prop := CB M B' ∧ MB M B ∧ RB B' ∧ WF B' ∧ StC M B' ∧ CC M B'
theorem Half.inv {M N B B' : Mem} (h : Half M B B') (hK : sme kC M N) (hM : MB N B') (hC : CM N B') : Inv N B' :=
  ⟨h.1.kc hK, hM, h.2.2.1, h.2.2.2.1, h.2.2.2.2.1.kc hK, h.2.2.2.2.2.kc hK, hC⟩
