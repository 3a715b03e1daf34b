/-! ===== the class's survey ===== -/
/-- how a survey stands -/
def Sv (M : Mem) (mk K S W V lo hi ls : Int) : Prop := M 9 7 = mk ∧ M 9 0 = K ∧ M 9 1 = S ∧ M 9 2 = W ∧ M 9 3 = V ∧ (K ≠ 0 → M 9 4 = lo ∧ M 9 5 = hi) ∧ (S ≠ 0 → M 9 6 = ls)
theorem Survey_begin_ok {M : Mem} {mk : Int} {Q : Mem → Prop} (h : 0 ≤ mk ∧ mk ≤ 999) (kk : ∀ N, Sv N mk 0 0 0 0 0 0 0 → (∀ h, h ≠ 9 → N h = M h) → Q N) : w_Survey_begin M mk Q := by
  unfold w_Survey_begin
  refine ⟨h, ?_⟩
  (intro N1 eN1; subst eN1)
  (intro N2 eN2; subst eN2)
  (intro N3 eN3; subst eN3)
  (intro N4 eN4; subst eN4)
  (intro N5 eN5; subst eN5)
  refine kk _ ⟨?_, ?_, ?_, ?_, ?_, fun z => absurd rfl z, fun z => absurd rfl z⟩ (fun h e => by rw [mset_ne e, mset_ne e, mset_ne e, mset_ne e, mset_ne e])
  · rw [ms_n (by decide), ms_n (by decide), ms_n (by decide), ms_n (by decide), ms_s]
  · rw [ms_n (by decide), ms_n (by decide), ms_n (by decide), ms_s]
  · rw [ms_n (by decide), ms_n (by decide), ms_s]
  · rw [ms_n (by decide), ms_s]
  · rw [ms_s]
