/-! ===== the class's survey takes a number ===== -/
theorem Survey_add_ok {M : Mem} {mk K S W V lo hi ls x w : Int} {Q : Mem → Prop} (H : Sv M mk K S W V lo hi ls) (hx : -1 ≤ x ∧ x ≤ 100000) (hw : 0 ≤ w ∧ w ≤ 531441) (hK : 0 ≤ K ∧ K < 729) (hS : 0 ≤ S ∧ S ≤ K) (hWr : 0 ≤ W ∧ W ≤ 531441 * 729) (hVr : 0 ≤ V ∧ V ≤ 531441 * 729)
    (kk : ∀ N, Sv N mk (K + 1) (if mk ≤ x then S + 1 else S) (W + w) (if mk ≤ x then V + w else V) (if K = 0 then x else min lo x) (if K = 0 then x else max hi x) (if mk ≤ x then (if S = 0 then x else min ls x) else ls) → (∀ h, h ≠ 9 → N h = M h) → Q N) : w_Survey_add M x w Q := by
  obtain ⟨e1, e2, e3, e4, e5, e6, e7⟩ := H
  have J2 : ∀ (N : Mem) (z : Int), mk ≤ x → z = (if S = 0 then x else min ls x) → R32 z → N 9 7 = mk → N 9 0 = K + 1 → N 9 1 = S → N 9 2 = W + w → N 9 3 = V → N 9 4 = (if K = 0 then x else min lo x) → N 9 5 = (if K = 0 then x else max hi x) → (∀ h, h ≠ 9 → N h = M h) → w_Survey_add_j2 Q w z N := by
    intro N z hm ez hz n1 n2 n3 n4 n5 n6 n7 n8
    unfold w_Survey_add_j2
    refine ⟨hz, ?_⟩
    (intro N1 eN1; subst eN1)
    intro a ea _ _
    rw [ms_n (by decide), n3] at ea
    subst ea
    refine ⟨by omega, ?_⟩
    (intro N2 eN2; subst eN2)
    intro b eb _ _
    rw [ms_n (by decide), ms_n (by decide), n5] at eb
    subst eb
    refine ⟨by omega, by omega, ?_⟩
    (intro N3 eN3; subst eN3)
    refine kk _ ⟨?_, ?_, ?_, ?_, ?_, fun _ => ⟨?_, ?_⟩, fun _ => ?_⟩ (fun h e => by rw [mset_ne e, mset_ne e, mset_ne e]; exact n8 h e)
    · rw [ms_n (by decide), ms_n (by decide), ms_n (by decide)]; exact n1
    · rw [ms_n (by decide), ms_n (by decide), ms_n (by decide)]; exact n2
    · rw [ms_n (by decide), ms_s, if_pos hm]
    · rw [ms_n (by decide), ms_n (by decide), ms_n (by decide)]; exact n4
    · rw [ms_s, if_pos hm]
    · rw [ms_n (by decide), ms_n (by decide), ms_n (by decide)]; exact n6
    · rw [ms_n (by decide), ms_n (by decide), ms_n (by decide)]; exact n7
    · rw [ms_n (by decide), ms_n (by decide), ms_s, if_pos hm]; exact ez
  have J1 : ∀ (N : Mem) (z : Int), z = (if K = 0 then x else max hi x) → R32 z → N 9 7 = mk → N 9 0 = K → N 9 1 = S → N 9 2 = W → N 9 3 = V → N 9 4 = (if K = 0 then x else min lo x) → (S ≠ 0 → N 9 6 = ls) → (∀ h, h ≠ 9 → N h = M h) → w_Survey_add_j1 Q x w z N := by
    intro N z ez hz n1 n2 n3 n4 n5 n6 n7 n8
    unfold w_Survey_add_j1
    refine ⟨hz, ?_⟩
    (intro N1 eN1; subst eN1)
    intro a ea _ _
    rw [ms_n (by decide), n2] at ea
    subst ea
    refine ⟨by omega, ?_⟩
    (intro N2 eN2; subst eN2)
    intro b eb _ _
    rw [ms_n (by decide), ms_n (by decide), n4] at eb
    subst eb
    refine ⟨by omega, by omega, ?_⟩
    (intro N3 eN3; subst eN3)
    have m1 : (mset (mset (mset N 9 5 z) 9 0 (a + 1)) 9 2 (b + w)) 9 7 = mk := by rw [ms_n (by decide), ms_n (by decide), ms_n (by decide)]; exact n1
    have m2 : (mset (mset (mset N 9 5 z) 9 0 (a + 1)) 9 2 (b + w)) 9 0 = a + 1 := by rw [ms_n (by decide), ms_s]
    have m3 : (mset (mset (mset N 9 5 z) 9 0 (a + 1)) 9 2 (b + w)) 9 1 = S := by rw [ms_n (by decide), ms_n (by decide), ms_n (by decide)]; exact n3
    have m4 : (mset (mset (mset N 9 5 z) 9 0 (a + 1)) 9 2 (b + w)) 9 2 = b + w := ms_s
    have m5 : (mset (mset (mset N 9 5 z) 9 0 (a + 1)) 9 2 (b + w)) 9 3 = V := by rw [ms_n (by decide), ms_n (by decide), ms_n (by decide)]; exact n5
    have m6 : (mset (mset (mset N 9 5 z) 9 0 (a + 1)) 9 2 (b + w)) 9 4 = (if a = 0 then x else min lo x) := by rw [ms_n (by decide), ms_n (by decide), ms_n (by decide)]; exact n6
    have m7 : (mset (mset (mset N 9 5 z) 9 0 (a + 1)) 9 2 (b + w)) 9 5 = (if a = 0 then x else max hi x) := by rw [ms_n (by decide), ms_n (by decide), ms_s]; exact ez
    have m8 : S ≠ 0 → (mset (mset (mset N 9 5 z) 9 0 (a + 1)) 9 2 (b + w)) 9 6 = ls := fun h => by rw [ms_n (by decide), ms_n (by decide), ms_n (by decide)]; exact n7 h
    have m9 : ∀ h, h ≠ 9 → (mset (mset (mset N 9 5 z) 9 0 (a + 1)) 9 2 (b + w)) h = M h := fun h e => by rw [mset_ne e, mset_ne e, mset_ne e]; exact n8 h e
    generalize (mset (mset (mset N 9 5 z) 9 0 (a + 1)) 9 2 (b + w)) = N3 at m1 m2 m3 m4 m5 m6 m7 m8 m9 ⊢
    intro t et _ _
    rw [m1] at et
    subst et
    refine ⟨by omega, fun h => ?_, fun h => kk N3 ⟨m1, m2, by rw [if_neg h]; exact m3, m4, by rw [if_neg h]; exact m5, fun _ => ⟨m6, m7⟩, fun y => by rw [if_neg h] at y ⊢; exact m8 y⟩ m9⟩
    intro s es _ _
    rw [m3] at es
    subst es
    refine ⟨fun y => ?_, fun y => J2 N3 x h (by rw [if_pos y]) (by omega) m1 m2 m3 m4 m5 m6 m7 m9⟩
    intro v ev _ _
    rw [m8 y] at ev
    subst ev
    exact ⟨by omega, J2 N3 _ h (by rw [if_neg y]) (by omega) m1 m2 m3 m4 m5 m6 m7 m9⟩
  have J0 : ∀ z : Int, z = (if K = 0 then x else min lo x) → R32 z → w_Survey_add_j0 Q x w z M := by
    intro z ez hz
    unfold w_Survey_add_j0
    refine ⟨hz, ?_⟩
    (intro N1 eN1; subst eN1)
    intro a ea _ _
    rw [ms_n (by decide), e2] at ea
    subst ea
    have go : ∀ y : Int, y = (if a = 0 then x else max hi x) → R32 y → w_Survey_add_j1 Q x w y (mset M 9 4 z) := fun y ey hy => J1 _ y ey hy (by rw [ms_n (by decide)]; exact e1) (by rw [ms_n (by decide)]; exact e2) (by rw [ms_n (by decide)]; exact e3) (by rw [ms_n (by decide)]; exact e4) (by rw [ms_n (by decide)]; exact e5) (by rw [ms_s]; exact ez) (fun h => by rw [ms_n (by decide)]; exact e7 h) (fun h e => mset_ne e)
    refine ⟨fun h => ?_, fun h => go x (by rw [if_pos h]) (by omega)⟩
    intro b eb _ _
    rw [ms_n (by decide), (e6 h).2] at eb
    subst eb
    exact ⟨by omega, go _ (by rw [if_neg h]) (by omega)⟩
  unfold w_Survey_add
  (intro a ea _ _; have ea : a = M 9 0 := ea)
  rw [e2] at ea
  subst ea
  refine ⟨fun h => ?_, fun h => J0 x (by rw [if_pos h]) (by omega)⟩
  (intro b eb _ _; have eb : b = M 9 4 := eb)
  rw [(e6 h).1] at eb
  subst eb
  exact ⟨by omega, J0 _ (by rw [if_neg h]) (by omega)⟩
