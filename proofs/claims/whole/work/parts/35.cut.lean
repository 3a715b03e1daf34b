/-! ===== runs, choices and words hang on the first slots alone ===== -/
theorem mset_comm {M : Mem} {h h' : Nat} {i i' z z' : Int} (e : h ≠ h') : mset (mset M h i z) h' i' z' = mset (mset M h' i' z') h i z := by
  funext a
  by_cases h1 : a = h
  · subst h1
    rw [mset_ne e, mset_eq, mset_eq, mset_ne e]
  · by_cases h2 : a = h'
    · subst h2
      rw [mset_eq, mset_ne h1, mset_ne h1, mset_eq]
    · rw [mset_ne h2, mset_ne h1, mset_ne h1, mset_ne h2]
theorem cu_lo {B : Mem} {j : Nat} (h : j < 20) : cut B j = B j := if_pos h
theorem cu_dep (B : Mem) (c : Int) : ∀ k : Nat, dep (cut B) c k = dep B c k
  | 0 => rfl
  | k + 1 => by unfold dep; rw [cu_dep B c k]; rfl
theorem cu_uw (B : Mem) (c : Int) (k : Nat) : uw (cut B) c k = uw B c k := by
  unfold uw wet; rw [cu_dep]; rfl
theorem cu_abv (B : Mem) (c : Int) : ∀ k : Nat, abv (cut B) c k = abv B c k
  | 0 => rfl
  | k + 1 => by unfold abv; rw [cu_abv B c k, cu_uw]; rfl
theorem cu_hld (B : Mem) (c : Int) (k : Nat) : hld (cut B) c k = hld B c k := by
  unfold hld; rw [cu_abv, cu_uw]; rfl
theorem cu_rlk (B : Mem) (c : Int) (k : Nat) (n : Int) : rlk (cut B) c k n = rlk B c k n := rfl
theorem cu_nly (B : Mem) (c : Int) : nly (cut B) c = nly B c := rfl
theorem cu_arD (B : Mem) (c : Int) (P : Nat → Int × Int) (a : Int) : ∀ d : Nat, arD (cut B) c P a d = arD B c P a d
  | 0 => rfl
  | d + 1 => by unfold arD; rw [cu_arD B c P a d]; rfl
theorem cu_stp (B : Mem) (c q : Int) (ch : Nat → Int) (mo le : Int) (P : Nat → Int × Int) (s : Nat) : stp (cut B) c q ch mo le P s = stp B c q ch mo le P s := by
  funext k
  unfold stp bt1 grw arr los wet
  simp only [cu_arD, cu_hld, cu_dep, cu_rlk, cu_nly]
  rfl
theorem cu_FF (B : Mem) (c q : Int) (ch : Nat → Int) (mo le : Int) : ∀ s : Nat, FF (cut B) c q ch mo le s = FF B c q ch mo le s
  | 0 => rfl
  | s + 1 => by unfold FF; rw [cu_FF B c q ch mo le s, cu_stp]
theorem cu_fin (B : Mem) (c q : Int) (ch : Nat → Int) (mo le : Int) : fin (cut B) c q ch mo le = fin B c q ch mo le := by
  funext k; unfold fin; rw [cu_FF]; rfl
theorem cu_anyG (B : Mem) (c q : Int) (ch : Nat → Int) (mo le : Int) : anyG (cut B) c q ch mo le = anyG B c q ch mo le := by
  unfold anyG; rw [cu_fin]; rfl
theorem cu_many (B : Mem) (c : Int) : ∀ k : Nat, many (cut B) c k = many B c k
  | 0 => rfl
  | k + 1 => by unfold many; rw [cu_many B c k]; rfl
theorem cu_lft (B : Mem) (c : Int) (n : Nat) (p : Int) : ∀ d : Nat, lft (cut B) c n p d = lft B c n p d
  | 0 => rfl
  | d + 1 => by unfold lft; rw [cu_lft B c n p d]; rfl
theorem cu_dig (B : Mem) (c p : Int) : dig (cut B) c p = dig B c p := by
  funext k; unfold dig; rw [cu_lft]; rfl
theorem cu_bar1 (B : Mem) (c : Int) (ch : Nat → Int) (i : Int) : bar1 (cut B) c ch i = bar1 B c ch i := by
  unfold bar1
  simp only [cu_anyG]
  rfl
theorem setN_cg {P P' : Nat → Prop} (h : ∀ i, P i ↔ P' i) : ∀ n, setN P n = setN P' n
  | 0 => rfl
  | n + 1 => by
    unfold setN
    rw [setN_cg h n]
    by_cases hp : P n
    · rw [if_pos hp, if_pos ((h n).mp hp)]
    · rw [if_neg hp, if_neg (fun z => hp ((h n).mpr z))]
theorem cu_agst (B : Mem) (c : Int) (ch : Nat → Int) : agst (cut B) c ch = agst B c ch := by
  unfold agst
  refine setN_cg (fun i => ?_) _
  rw [cu_bar1]
  exact Iff.rfl
/-- the look, without the cut -/
theorem CC.at {M B : Mem} (h : CC M B) {c : Nat} (hc : c < 6) (hl : M 5 9 / 2 ^ c % 2 = 1) : M 36 c = many B c (nly B c) ∧ ∀ p : Int, 0 ≤ p → p < many B c (nly B c) → M 37 (c * 729 + p) = agst B c (dig B c p) := by
  have := h c hc hl
  simp only [cu_many, cu_nly, cu_dig, cu_agst] at this
  exact this
theorem CC.of {M B : Mem} (h : ∀ c : Nat, c < 6 → M 5 9 / 2 ^ c % 2 = 1 → M 36 c = many B c (nly B c) ∧ ∀ p : Int, 0 ≤ p → p < many B c (nly B c) → M 37 (c * 729 + p) = agst B c (dig B c p)) : CC M B := by
  intro c hc hl
  simp only [cu_many, cu_nly, cu_dig, cu_agst]
  exact h c hc hl
theorem kept_cg {B B' : Mem} (e : cut B' = cut B) (es : B' 22 = B 22) (c p : Int) : kept B' c p ↔ kept B c p := by
  have a1 : B' 11 = B 11 := congrFun e 11
  have a2 : B' 12 = B 12 := congrFun e 12
  unfold kept
  rw [es, a1, a2]
  have : ∀ i, bar1 B' c (dig B' c p) i = bar1 B c (dig B c p) i := fun i => by
    rw [← cu_bar1 B', ← cu_dig B', e, cu_bar1, cu_dig]
  simp only [this]
theorem cntN_cg {P P' : Nat → Prop} (h : ∀ i, P i ↔ P' i) : ∀ n, cntN P n = cntN P' n
  | 0 => rfl
  | n + 1 => by
    unfold cntN
    rw [cntN_cg h n]
    by_cases hp : P n
    · rw [if_pos hp, if_pos ((h n).mp hp)]
    · rw [if_neg hp, if_neg (fun z => hp ((h n).mpr z))]
theorem CM.cg {M B B' : Mem} (h : CM M B) (e : cut B' = cut B) (es : B' 22 = B 22) : CM M B' := by
  intro c h0 hc hl
  obtain ⟨a, b⟩ := h c h0 hc hl
  have e1 : many B' c (nly B' c) = many B c (nly B c) := by
    rw [← cu_many B', ← cu_nly B', e, cu_many, cu_nly]
  rw [e1]
  refine ⟨a.trans (cntN_cg (fun i => (kept_cg e es c i).symm) _), fun p p0 p1 => (b p p0 p1).trans (kept_cg e es c p).symm⟩
