/-! ===== the model reads ===== -/
def MS (N M B : Mem) (a : Nat) (fa : Int) (D : Int → Int) : Prop := N 12 62 = a ∧ N 12 61 = fa ∧ (∀ j : Int, 0 ≤ j → j < 25 → N 65 j = D j) ∧ N 12 60 = B 38 0 ∧ N 98 = B 37 ∧ (∀ h, h ≠ 12 → h ≠ 65 → N h = M h) ∧ (∀ k : Int, k ≠ 61 → k ≠ 62 → k ≠ 63 → k ≠ 64 → k ≠ 65 → N 12 k = M 12 k)
section MREAD
variable {M N B : Mem} {fa : Int} {D : Int → Int} {p : Nat}
theorem MS.at_ {p' : Nat} {z : Int} (h : MS N M B p fa D) (e : z = p') : MS (mset N 12 62 z) M B p' fa D := by
  obtain ⟨h1, h2, h3, h4, h5, h6, h7⟩ := h
  exact ⟨by rw [ms_s]; exact e, by rw [ms_n (by decide)]; exact h2, fun j a b => by rw [mset_ne (by decide)]; exact h3 j a b, by rw [ms_n (by decide)]; exact h4, by rw [mset_ne (by decide)]; exact h5, fun h a b => by rw [mset_ne a]; exact h6 h a b, fun k a b c d e => by rw [ms_n b]; exact h7 k a b c d e⟩
theorem MS.fp {z : Int} (h : MS N M B p fa D) : MS (mset N 12 61 z) M B p z D := by
  obtain ⟨h1, h2, h3, h4, h5, h6, h7⟩ := h
  exact ⟨by rw [ms_n (by decide)]; exact h1, by rw [ms_s], fun j a b => by rw [mset_ne (by decide)]; exact h3 j a b, by rw [ms_n (by decide)]; exact h4, by rw [mset_ne (by decide)]; exact h5, fun h a b => by rw [mset_ne a]; exact h6 h a b, fun k a b c d e => by rw [ms_n a]; exact h7 k a b c d e⟩
theorem MS.wo {z : Int} (h : MS N M B p fa D) : MS (mset N 12 63 z) M B p fa D := by
  obtain ⟨h1, h2, h3, h4, h5, h6, h7⟩ := h
  exact ⟨by rw [ms_n (by decide)]; exact h1, by rw [ms_n (by decide)]; exact h2, fun j a b => by rw [mset_ne (by decide)]; exact h3 j a b, by rw [ms_n (by decide)]; exact h4, by rw [mset_ne (by decide)]; exact h5, fun h a b => by rw [mset_ne a]; exact h6 h a b, fun k a b c d e => by rw [ms_n c]; exact h7 k a b c d e⟩
theorem MS.en {z : Int} (h : MS N M B p fa D) : MS (mset N 12 64 z) M B p fa D := by
  obtain ⟨h1, h2, h3, h4, h5, h6, h7⟩ := h
  exact ⟨by rw [ms_n (by decide)]; exact h1, by rw [ms_n (by decide)]; exact h2, fun j a b => by rw [mset_ne (by decide)]; exact h3 j a b, by rw [ms_n (by decide)]; exact h4, by rw [mset_ne (by decide)]; exact h5, fun h a b => by rw [mset_ne a]; exact h6 h a b, fun k a b c d e => by rw [ms_n d]; exact h7 k a b c d e⟩
theorem MS.nu {z : Int} (h : MS N M B p fa D) : MS (mset N 12 65 z) M B p fa D := by
  obtain ⟨h1, h2, h3, h4, h5, h6, h7⟩ := h
  exact ⟨by rw [ms_n (by decide)]; exact h1, by rw [ms_n (by decide)]; exact h2, fun j a b => by rw [mset_ne (by decide)]; exact h3 j a b, by rw [ms_n (by decide)]; exact h4, by rw [mset_ne (by decide)]; exact h5, fun h a b => by rw [mset_ne a]; exact h6 h a b, fun k a b c d e => by rw [ms_n e]; exact h7 k a b c d e⟩
theorem MS.dr {i z : Int} (h : MS N M B p fa D) : MS (mset N 65 i z) M B p fa (putD D i z) := by
  obtain ⟨h1, h2, h3, h4, h5, h6, h7⟩ := h
  exact ⟨by rw [mset_ne (by decide)]; exact h1, by rw [mset_ne (by decide)]; exact h2, fun j a b => by rw [mset_eq]; show (if j = i then z else N 65 j) = if j = i then z else D j; rw [h3 j a b], by rw [mset_ne (by decide)]; exact h4, by rw [mset_ne (by decide)]; exact h5, fun h a b => by rw [mset_ne b]; exact h6 h a b, fun k a b c d e => by rw [mset_ne (by decide)]; exact h7 k a b c d e⟩
theorem MS.cg {D' : Int → Int} (h : MS N M B p fa D) (e : ∀ j : Int, 0 ≤ j → j < 25 → D' j = D j) : MS N M B p fa D' := by
  obtain ⟨h1, h2, h3, h4, h5, h6, h7⟩ := h
  exact ⟨h1, h2, fun j a b => (h3 j a b).trans (e j a b).symm, h4, h5, h6, h7⟩
/-- the sign at a place, or -1 -/
def hr (B : Mem) (q : Nat) : Int := if (q : Int) < B 38 0 then B 37 q else -1
theorem hr_rng (hR : RB B) (q : Nat) : -1 ≤ hr B q ∧ hr B q ≤ 255 := by
  have := b_text hR q
  unfold hr
  split <;> omega
theorem m_here_ok {Q : Int → Mem → Prop} (hR : RB B) (H : MS N M B p fa D) (hp : (p : Int) ≤ B 38 0) (kk : ∀ N', MS N' M B (sk B p) fa D → Q (hr B (sk B p)) N') : w_m_here N Q := by
  have ht := b_tlen hR 0
  unfold w_m_here w_m_here_L0
  intro X hX
  have J : ∀ N' (q : Nat), MS N' M B q fa D → (q : Int) ≤ B 38 0 → Q (hr B q) N' → w_m_here_j0 Q N' := by
    intro N' q H' hq kk
    unfold w_m_here_j0
    (intro a ea _ _; have ea : a = N' 12 62 := ea)
    rw [H'.1] at ea
    (intro b eb _ _; have eb : b = N' 12 60 := eb)
    rw [H'.2.2.2.1] at eb
    unfold hr at kk
    refine ⟨fun h => by rw [if_neg (by omega)] at kk; exact kk, fun h => ?_⟩
    rw [if_pos (by omega)] at kk
    (intro x ex _ _; have ex : x = N' 12 62 := ex)
    rw [H'.1] at ex
    refine ⟨by omega, ?_⟩
    (intro y ey _ _; have ey : y = N' 98 x := ey)
    rw [H'.2.2.2.2.1, ex] at ey
    rw [ey]
    exact kk
  have key : ∀ (d p : Nat) (N : Mem), p + d = 200 → MS N M B p fa D → (p : Int) ≤ B 38 0 → (∀ N', MS N' M B (sk B p) fa D → Q (hr B (sk B p)) N') → X N := by
    intro d
    induction d with
    | zero =>
      intro p N hd H hp kk
      apply hX
      unfold w_m_here_B0
      (intro a ea _ _; have ea : a = N 12 62 := ea)
      rw [H.1] at ea
      (intro b eb _ _; have eb : b = N 12 60 := eb)
      rw [H.2.2.2.1] at eb
      rw [(show sk B p = p from sc_stop (fun z => by omega))] at kk
      exact ⟨fun _ => J N p H hp (kk N H), fun h => absurd h (by omega)⟩
    | succ d ih =>
      intro p N hd H hp kk
      have stop : ¬ ((p : Int) < B 38 0 ∧ 32 ≤ B 37 p ∧ B 37 p ≤ 32) → w_m_here_j0 Q N := fun h => by
        rw [(show sk B p = p from sc_stop h)] at kk
        exact J N p H hp (kk N H)
      apply hX
      unfold w_m_here_B0
      (intro a ea _ _; have ea : a = N 12 62 := ea)
      rw [H.1] at ea
      (intro b eb _ _; have eb : b = N 12 60 := eb)
      rw [H.2.2.2.1] at eb
      refine ⟨fun h => stop (fun z => by omega), fun h => ?_⟩
      (intro x ex _ _; have ex : x = N 12 62 := ex)
      rw [H.1] at ex
      refine ⟨by omega, ?_⟩
      (intro y ey _ _; have ey : y = N 98 x := ey)
      rw [H.2.2.2.2.1, ex] at ey
      refine ⟨fun h2 => stop (fun z => h2 (by omega)), fun h2 => ?_⟩
      (intro z ez _ _; have ez : z = N 12 62 := ez)
      rw [H.1] at ez
      refine ⟨by omega, ?_⟩
      (intro N1 eN1; subst eN1)
      rw [(show sk B p = sk B (p + 1) from sc_go hR (by omega))] at kk
      exact ih (p + 1) _ (by omega) (H.at_ (by omega)) (by omega) kk
  exact key (200 - p) p N (by omega) H hp kk
theorem m_readWord_ok {Q : Mem → Prop} (hR : RB B) (H : MS N M B p fa D) (hp : (p : Int) ≤ B 38 0) (kk : ∀ N', MS N' M B (sk B p) fa D → N' 12 63 = wv B (sk B p) (we B (sk B p) - sk B p) → N' 12 64 = (we B (sk B p) : Nat) → Q N') : w_m_readWord N Q := by
  have ht := b_tlen hR 0
  unfold w_m_readWord
  refine m_here_ok hR H hp (fun N0 H0 => ?_)
  have hs : (sk B p : Int) ≤ B 38 0 := sk_L hp
  generalize sk B p = s at H0 hs kk
  (intro N1 eN1; subst eN1)
  intro a ea _ _
  rw [ms_n (by decide), H0.1] at ea
  (intro N2 eN2; subst eN2)
  subst ea
  have hle := we_le (B := B) s
  have hin : ∀ i : Nat, s + i < we B s → 97 ≤ B 37 ((s + i : Nat) : Int) ∧ B 37 ((s + i : Nat) : Int) ≤ 122 := fun i hi => sc_in (B := B) (lo := 97) (hi := 122) (p := s) (by omega) hi
  unfold w_m_readWord_L0
  intro X hX
  have key : ∀ (d j : Nat) (N : Mem), s + j + d = 200 → MS N M B s fa D → N 12 63 = wv B s j → N 12 64 = ((s + j : Nat) : Int) → ((s + j : Nat) : Int) ≤ B 38 0 → we B (s + j) = we B s → X N := by
    intro d
    induction d with
    | zero =>
      intro j N hd H h1 h2 hq e
      apply hX
      unfold w_m_readWord_B0
      (intro a ea _ _; have ea : a = N 12 64 := ea)
      rw [h2] at ea
      (intro b eb _ _; have eb : b = N 12 60 := eb)
      rw [H.2.2.2.1] at eb
      have e2 : we B s = s + j := e.symm.trans (show we B (s + j) = s + j from sc_stop (fun z => by omega))
      refine ⟨fun _ => kk N H ?_ ?_, fun h => absurd h (by omega)⟩
      · rw [e2, Nat.add_sub_cancel_left]; exact h1
      · rw [e2]; exact h2
    | succ d ih =>
      intro j N hd H h1 h2 hq e
      have stop : ¬ (((s + j : Nat) : Int) < B 38 0 ∧ 97 ≤ B 37 ((s + j : Nat) : Int) ∧ B 37 ((s + j : Nat) : Int) ≤ 122) → Q N := fun h => by
        have e2 : we B s = s + j := e.symm.trans (show we B (s + j) = s + j from sc_stop h)
        refine kk N H ?_ ?_
        · rw [e2, Nat.add_sub_cancel_left]; exact h1
        · rw [e2]; exact h2
      apply hX
      unfold w_m_readWord_B0
      (intro a ea _ _; have ea : a = N 12 64 := ea)
      rw [h2] at ea
      (intro b eb _ _; have eb : b = N 12 60 := eb)
      rw [H.2.2.2.1] at eb
      refine ⟨fun h => stop (fun z => by omega), fun h => ?_⟩
      (intro x ex _ _; have ex : x = N 12 64 := ex)
      rw [h2] at ex
      refine ⟨by omega, ?_⟩
      (intro y ey _ _; have ey : y = N 98 x := ey)
      rw [H.2.2.2.2.1, ex] at ey
      refine m_in_ok (by omega) (by decide) (by decide) (fun h3 => ?_) (fun h3 h4 => ?_)
      · (first | refine t0n ?_ | refine t0e ?_)
        exact stop (fun z => by omega)
      · (first | refine t1n ?_ | refine t1e ?_)
        have hgo : we B (s + j) = we B (s + j + 1) := sc_go hR (by omega)
        have hwr := wv_pos (B := B) (p := s) j (fun i hi => hin i (by have := we_le (B := B) (s + j); omega))
        have J : ∀ v, v = wv B s (j + 1) → w_m_readWord_j0 Q X v N := by
          intro v ev
          have hwr2 := wv_pos (B := B) (p := s) (j + 1) (fun i hi => hin i (by have := we_le (B := B) (s + j + 1); omega))
          unfold w_m_readWord_j0
          refine ⟨by omega, ?_⟩
          (intro N3 eN3; subst eN3)
          intro z ez _ _
          rw [ms_n (by decide), h2] at ez
          refine ⟨by omega, ?_⟩
          (intro N4 eN4; subst eN4)
          refine ih (j + 1) _ (by omega) H.wo.en ?_ ?_ (by omega) (show we B (s + (j + 1)) = we B s from hgo.symm.trans e)
          · rw [ms_n (by decide), ms_s]; exact ev
          · rw [ms_s, ez]; omega
        have ew : wv B s (j + 1) = if wv B s j ≤ 10000000000 then 27 * wv B s j + B 37 ((s + j : Nat) : Int) - 96 else 20000000000 := rfl
        (intro u eu _ _; have eu : u = N 12 63 := eu)
        rw [h1] at eu
        refine ⟨fun h5 => ?_, fun h5 => J _ (by rw [ew, if_neg (by omega)])⟩
        (intro u2 eu2 _ _; have eu2 : u2 = N 12 63 := eu2)
        rw [h1] at eu2
        (intro x2 ex2 _ _; have ex2 : x2 = N 12 64 := ex2)
        rw [h2] at ex2
        refine ⟨by omega, ?_⟩
        (intro y2 ey2 _ _; have ey2 : y2 = N 98 x2 := ey2)
        rw [H.2.2.2.2.1, ex2] at ey2
        exact J _ (by rw [ew, if_pos (by omega), eu2, ey2])
  refine key (200 - s) 0 _ (by omega) H0.wo.en ?_ ?_ hs rfl
  · rw [ms_n (by decide), ms_s]; rfl
  · rw [ms_s]; rfl
/-- the model's key, its name, of a code -/
noncomputable def kyC (w : Int) : Int := if w = 25 then 0 else if 20 ≤ w then w else -1
noncomputable def nmC (w : Int) : Int := if 0 ≤ w ∧ w < 5 then w else -1
theorem m_keyOf_ok {s n : Nat} {Q : Int → Prop} (hw : N 12 63 = wv B s n) (ht : ∀ i : Nat, i < n → 97 ≤ B 37 ((s + i : Nat) : Int) ∧ B 37 ((s + i : Nat) : Int) ≤ 122) (kk : Q (kyC (wc B s n))) : w_m_keyOf N Q := by
  have sp : ∀ i : Nat, i < 26 → sIx i < 11 → (wv B s n = cvf (wsp (sIx i)) (wsp (sIx i)).length ↔ isSp B s n i) := fun i hi hx => wv_sp hi hx ht
  have yes : ∀ i : Nat, i < 26 → isSp B s n i → kyC i = kyC (wc B s n) := fun i hi h => by rw [wc_of hi h]
  have no : ¬ isSp B s n 25 → ¬ isSp B s n 20 → ¬ isSp B s n 21 → ¬ isSp B s n 22 → ¬ isSp B s n 23 → ¬ isSp B s n 24 → kyC (wc B s n) = -1 := by
    intro a b c d e f
    rcases wc_is (B := B) s n with z | ⟨k, z1, z2, z3⟩
    · rw [z]; unfold kyC; rw [if_neg (by decide), if_neg (by decide)]
    · rw [z1]
      have : k < 20 := by
        by_cases y : k < 20
        · exact y
        · have : k = 20 ∨ k = 21 ∨ k = 22 ∨ k = 23 ∨ k = 24 ∨ k = 25 := by omega
          rcases this with rfl | rfl | rfl | rfl | rfl | rfl
          · exact absurd z3 b
          · exact absurd z3 c
          · exact absurd z3 d
          · exact absurd z3 e
          · exact absurd z3 f
          · exact absurd z3 a
      unfold kyC
      rw [if_neg (by omega), if_neg (by omega)]
  have hv := wv_pos n ht
  have c25 := sp 25 (by decide) (by decide)
  have c20 := sp 20 (by decide) (by decide)
  have c21 := sp 21 (by decide) (by decide)
  have c22 := sp 22 (by decide) (by decide)
  have c23 := sp 23 (by decide) (by decide)
  have c24 := sp 24 (by decide) (by decide)
  unfold w_m_keyOf
  intro a1 e1 _ _
  have e1 : a1 = wv B s n := e1.trans hw
  refine m_code_ok (by decide) (by decide) (by decide) (by decide) (by decide) (by decide) ⟨by decide, fun n25 => ?_, fun y => ?_⟩
  · intro a2 e2 _ _
    have e2 : a2 = wv B s n := e2.trans hw
    refine m_code_ok (by decide) (by decide) (by decide) (by decide) (by decide) (by decide) ⟨by decide, fun n20 => ?_, fun y => ?_⟩
    · intro a3 e3 _ _
      have e3 : a3 = wv B s n := e3.trans hw
      refine m_code_ok (by decide) (by decide) (by decide) (by decide) (by decide) (by decide) ⟨by decide, fun n21 => ?_, fun y => ?_⟩
      · intro a4 e4 _ _
        have e4 : a4 = wv B s n := e4.trans hw
        refine m_code_ok (by decide) (by decide) (by decide) (by decide) (by decide) (by decide) ⟨by decide, fun n22 => ?_, fun y => ?_⟩
        · intro a5 e5 _ _
          have e5 : a5 = wv B s n := e5.trans hw
          refine m_code_ok (by decide) (by decide) (by decide) (by decide) (by decide) (by decide) ⟨by decide, fun n23 => ?_, fun y => ?_⟩
          · intro a6 e6 _ _
            have e6 : a6 = wv B s n := e6.trans hw
            refine m_code_ok (by decide) (by decide) (by decide) (by decide) (by decide) (by decide) ⟨by decide, fun n24 => ?_, fun y => ?_⟩
            · rw [no (fun z => n25 (e1.trans (c25.mpr z))) (fun z => n20 (e2.trans (c20.mpr z))) (fun z => n21 (e3.trans (c21.mpr z))) (fun z => n22 (e4.trans (c22.mpr z))) (fun z => n23 (e5.trans (c23.mpr z))) (fun z => n24 (e6.trans (c24.mpr z)))] at kk
              exact kk
            · rw [← yes 24 (by decide) (c24.mp (e6.symm.trans y))] at kk
              exact kk
          · rw [← yes 23 (by decide) (c23.mp (e5.symm.trans y))] at kk
            exact kk
        · rw [← yes 22 (by decide) (c22.mp (e4.symm.trans y))] at kk
          exact kk
      · rw [← yes 21 (by decide) (c21.mp (e3.symm.trans y))] at kk
        exact kk
    · rw [← yes 20 (by decide) (c20.mp (e2.symm.trans y))] at kk
      exact kk
  · rw [← yes 25 (by decide) (c25.mp (e1.symm.trans y))] at kk
    exact kk
theorem m_nameOf_ok {s n : Nat} {Q : Int → Prop} (hw : N 12 63 = wv B s n) (ht : ∀ i : Nat, i < n → 97 ≤ B 37 ((s + i : Nat) : Int) ∧ B 37 ((s + i : Nat) : Int) ≤ 122) (kk : Q (nmC (wc B s n))) : w_m_nameOf N Q := by
  have sp : ∀ i : Nat, i < 26 → sIx i < 11 → (wv B s n = cvf (wsp (sIx i)) (wsp (sIx i)).length ↔ isSp B s n i) := fun i hi hx => wv_sp hi hx ht
  have yes : ∀ i : Nat, i < 26 → isSp B s n i → nmC i = nmC (wc B s n) := fun i hi h => by rw [wc_of hi h]
  have no : ¬ isSp B s n 0 → ¬ isSp B s n 1 → ¬ isSp B s n 2 → ¬ isSp B s n 3 → ¬ isSp B s n 4 → nmC (wc B s n) = -1 := by
    intro a b c d e
    rcases wc_is (B := B) s n with z | ⟨k, z1, z2, z3⟩
    · rw [z]; unfold nmC; rw [if_neg (by decide)]
    · rw [z1]
      have : 5 ≤ k := by
        by_cases y : 5 ≤ k
        · exact y
        · have : k = 0 ∨ k = 1 ∨ k = 2 ∨ k = 3 ∨ k = 4 := by omega
          rcases this with rfl | rfl | rfl | rfl | rfl
          · exact absurd z3 a
          · exact absurd z3 b
          · exact absurd z3 c
          · exact absurd z3 d
          · exact absurd z3 e
      unfold nmC
      rw [if_neg (by omega)]
  have c0 := sp 0 (by decide) (by decide)
  have c1 := sp 1 (by decide) (by decide)
  have c2 := sp 2 (by decide) (by decide)
  have c3 := sp 3 (by decide) (by decide)
  have c4 := sp 4 (by decide) (by decide)
  unfold w_m_nameOf
  intro a1 e1 _ _
  have e1 : a1 = wv B s n := e1.trans hw
  refine m_code_ok (by decide) (by decide) (by decide) (by decide) (by decide) (by decide) ⟨by decide, fun n0 => ?_, fun y => ?_⟩
  · intro a2 e2 _ _
    have e2 : a2 = wv B s n := e2.trans hw
    refine m_code_ok (by decide) (by decide) (by decide) (by decide) (by decide) (by decide) ⟨by decide, fun n1 => ?_, fun y => ?_⟩
    · intro a3 e3 _ _
      have e3 : a3 = wv B s n := e3.trans hw
      refine m_code_ok (by decide) (by decide) (by decide) (by decide) (by decide) (by decide) ⟨by decide, fun n2 => ?_, fun y => ?_⟩
      · intro a4 e4 _ _
        have e4 : a4 = wv B s n := e4.trans hw
        refine m_code_ok (by decide) (by decide) (by decide) (by decide) (by decide) (by decide) ⟨by decide, fun n3 => ?_, fun y => ?_⟩
        · intro a5 e5 _ _
          have e5 : a5 = wv B s n := e5.trans hw
          refine m_code_ok (by decide) (by decide) (by decide) (by decide) (by decide) (by decide) ⟨by decide, fun n4 => ?_, fun y => ?_⟩
          · rw [no (fun z => n0 (e1.trans (c0.mpr z))) (fun z => n1 (e2.trans (c1.mpr z))) (fun z => n2 (e3.trans (c2.mpr z))) (fun z => n3 (e4.trans (c3.mpr z))) (fun z => n4 (e5.trans (c4.mpr z)))] at kk
            exact kk
          · rw [← yes 4 (by decide) (c4.mp (e5.symm.trans y))] at kk
            exact kk
        · rw [← yes 3 (by decide) (c3.mp (e4.symm.trans y))] at kk
          exact kk
      · rw [← yes 2 (by decide) (c2.mp (e3.symm.trans y))] at kk
        exact kk
    · rw [← yes 1 (by decide) (c1.mp (e2.symm.trans y))] at kk
      exact kk
  · rw [← yes 0 (by decide) (c0.mp (e1.symm.trans y))] at kk
    exact kk
theorem m_fails_ok {x y : Int} {Q : Int → Mem → Prop} (H : MS N M B p fa D) (hy : -1 ≤ y ∧ y ≤ 200) (kk : ∀ N', MS N' M B p y D → Q x N') : w_m_fails N x y Q := by
  unfold w_m_fails
  refine ⟨hy, ?_⟩
  (intro N1 eN1; subst eN1)
  exact kk _ H.fp
/-- the model's number, cut off -/
def mvn (B : Mem) (s : Nat) : Nat → Int
  | 0 => 0
  | n + 1 => if mvn B s n ≤ 10000 then 10 * mvn B s n + B 37 ((s + n : Nat) : Int) - 48 else mvn B s n
theorem mvn_rng {s : Nat} : ∀ n : Nat, (∀ i : Nat, i < n → 48 ≤ B 37 ((s + i : Nat) : Int) ∧ B 37 ((s + i : Nat) : Int) ≤ 57) → 0 ≤ mvn B s n ∧ mvn B s n ≤ 100009
  | 0, _ => by unfold mvn; omega
  | n + 1, h => by
    have h1 := mvn_rng n (fun i hi => h i (by omega))
    have h2 := h n (by omega)
    unfold mvn
    split <;> omega
theorem mvn_nv {s : Nat} : ∀ n : Nat, n ≤ 4 → (∀ i : Nat, i < n → 48 ≤ B 37 ((s + i : Nat) : Int) ∧ B 37 ((s + i : Nat) : Int) ≤ 57) → mvn B s n = nv B s n
  | 0, _, _ => rfl
  | n + 1, hn, h => by
    have h1 := mvn_nv n (by omega) (fun i hi => h i (by omega))
    have h2 := nv_rng (B := B) (s := s) n (fun i hi => h i (by omega))
    have h3 := pow10 n (by omega)
    unfold mvn nv
    rw [h1, if_pos (by omega)]
theorem m_readNumber_ok {lo hi : Int} {Q : Int → Mem → Prop} (hR : RB B) (H : MS N M B p fa D) (hp : (p : Int) ≤ B 38 0) (hlo : 0 ≤ lo ∧ lo ≤ 999) (hhi : 0 ≤ hi ∧ hi ≤ 999)
    (k0 : numF B p lo hi = 0 → ∀ N', MS N' M B (numE B p) fa D → N' 12 65 = numV B p → Q 0 N') (k1 : numF B p lo hi ≠ 0 → ∀ N', MS N' M B (numE B p) (sk B p : Nat) D → Q (numF B p lo hi) N') : w_m_readNumber N lo hi Q := by
  have ht := b_tlen hR 0
  unfold w_m_readNumber
  refine m_here_ok hR H hp (fun N0 H0 => ?_)
  have hs : (sk B p : Int) ≤ B 38 0 := sk_L hp
  have eF : numF B p lo hi = if de B (sk B p) = sk B p then 1 else if 3 < de B (sk B p) - sk B p ∨ numV B p < lo ∨ hi < numV B p then 2 else 0 := rfl
  have eV : numV B p = nv B (sk B p) (de B (sk B p) - sk B p) := rfl
  have hE : numE B p = de B (sk B p) := rfl
  rw [hE] at k0 k1
  generalize numF B p lo hi = F at k0 k1 eF
  generalize numV B p = V at k0 eF eV
  generalize sk B p = s at H0 hs k0 k1 eF eV
  have hhr := hr_rng hR s
  have hle := de_le (B := B) s
  have hL : (de B s : Int) ≤ B 38 0 := de_L hs
  have hin : ∀ i : Nat, s + i < de B s → 48 ≤ B 37 ((s + i : Nat) : Int) ∧ B 37 ((s + i : Nat) : Int) ≤ 57 := fun i hi => sc_in (B := B) (lo := 48) (hi := 57) (p := s) (by omega) hi
  refine ⟨by omega, m_in_ok (by omega) (by decide) (by decide) (fun h => ?_) (fun h1 h2 => ?_)⟩
  · (first | refine t0n ?_ | refine t0e ?_)
    have hst : de B s = s := sc_stop (fun z => by
      unfold hr at h
      rw [if_pos z.1] at h
      omega)
    rw [if_pos hst] at eF
    (intro a ea _ _; have ea : a = N0 12 62 := ea)
    rw [H0.1] at ea
    refine m_fails_ok H0 (by omega) (fun N1 H1 => ?_)
    rw [ea, ← hst] at H1
    have := k1 (by rw [eF]; decide) N1 (by rw [hst] at H1 ⊢; exact H1)
    rw [eF] at this
    exact this
  · (first | refine t1n ?_ | refine t1e ?_)
    have hgo : (s : Int) < B 38 0 ∧ 48 ≤ B 37 s ∧ B 37 s ≤ 57 := by
      unfold hr at h1 h2
      by_cases z : (s : Int) < B 38 0
      · rw [if_pos z] at h1 h2; exact ⟨z, h1, h2⟩
      · rw [if_neg z] at h1; exact absurd h1 (by decide)
    have hne : s < de B s := by
      have e : de B s = de B (s + 1) := sc_go hR hgo
      have := de_le (B := B) (s + 1)
      omega
    rw [if_neg (by omega)] at eF
    (intro a ea _ _; have ea : a = N0 12 62 := ea)
    rw [H0.1] at ea
    subst ea
    (intro N1 eN1; subst eN1)
    have J2 : ∀ N', MS N' M B (de B s) fa D → F = 2 → w_m_readNumber_j2 Q s N' := by
      intro N' H' e2
      unfold w_m_readNumber_j2
      refine m_fails_ok H' (by omega) (fun N2 H2 => ?_)
      have := k1 (by omega) N2 H2
      rw [e2] at this
      exact this
    have J1 : ∀ N', MS N' M B (de B s) fa D → N' 12 65 = mvn B s (de B s - s) → w_m_readNumber_j1 Q lo hi s N' := by
      intro N' H' hn
      unfold w_m_readNumber_j1
      (intro x ex _ _; have ex : x = N' 12 62 := ex)
      rw [H'.1] at ex
      refine ⟨by omega, fun h3 => J2 N' H' ?_, fun h3 => ?_⟩
      · rw [if_pos (Or.inl (by omega))] at eF; exact eF
      · have em := mvn_nv (B := B) (s := s) (de B s - s) (by omega) (fun i hi => hin i (by omega))
        rw [em, ← eV] at hn
        (intro v ev _ _; have ev : v = N' 12 65 := ev)
        rw [hn] at ev
        subst ev
        refine ⟨by omega, by omega, m_in_ok (by omega) (by omega) (by omega) (fun hb => ?_) (fun b0 b1 => ?_)⟩
        · (first | refine t0n ?_ | refine t0e ?_)
          refine J2 N' H' ?_
          rw [if_pos (Or.inr hb)] at eF
          exact eF
        · (first | refine t1n ?_ | refine t1e ?_)
          rw [if_neg (by omega)] at eF
          exact k0 eF N' H' hn
    unfold w_m_readNumber_L0
    intro X hX
    have key : ∀ (d j : Nat) (N : Mem), s + j + d = 200 → MS N M B (s + j) fa D → N 12 65 = mvn B s j → ((s + j : Nat) : Int) ≤ B 38 0 → de B (s + j) = de B s → X N := by
      intro d
      induction d with
      | zero =>
        intro j N hd H hn hq e
        apply hX
        unfold w_m_readNumber_B0
        (intro a ea _ _; have ea : a = N 12 62 := ea)
        rw [H.1] at ea
        (intro b eb _ _; have eb : b = N 12 60 := eb)
        rw [H.2.2.2.1] at eb
        have e2 : de B s = s + j := e.symm.trans (show de B (s + j) = s + j from sc_stop (fun z => by omega))
        rw [← e2] at H
        refine ⟨fun _ => J1 N H ?_, fun h => absurd h (by omega)⟩
        rw [e2, Nat.add_sub_cancel_left]
        exact hn
      | succ d ih =>
        intro j N hd H hn hq e
        have stop : ¬ (((s + j : Nat) : Int) < B 38 0 ∧ 48 ≤ B 37 ((s + j : Nat) : Int) ∧ B 37 ((s + j : Nat) : Int) ≤ 57) → w_m_readNumber_j1 Q lo hi s N := fun h => by
          have e2 : de B s = s + j := e.symm.trans (show de B (s + j) = s + j from sc_stop h)
          rw [← e2] at H
          refine J1 N H ?_
          rw [e2, Nat.add_sub_cancel_left]
          exact hn
        apply hX
        unfold w_m_readNumber_B0
        (intro a ea _ _; have ea : a = N 12 62 := ea)
        rw [H.1] at ea
        (intro b eb _ _; have eb : b = N 12 60 := eb)
        rw [H.2.2.2.1] at eb
        refine ⟨fun h => stop (fun z => by omega), fun h => ?_⟩
        (intro x ex _ _; have ex : x = N 12 62 := ex)
        rw [H.1] at ex
        refine ⟨by omega, ?_⟩
        (intro y ey _ _; have ey : y = N 98 x := ey)
        rw [H.2.2.2.2.1, ex] at ey
        refine m_in_ok (by omega) (by decide) (by decide) (fun h3 => ?_) (fun h3 h4 => ?_)
        · (first | refine t0n ?_ | refine t0e ?_)
          exact stop (fun z => by omega)
        · (first | refine t1n ?_ | refine t1e ?_)
          have hgo2 : de B (s + j) = de B (s + j + 1) := sc_go hR (by omega)
          have J : ∀ v, v = mvn B s (j + 1) → w_m_readNumber_j0 Q X lo hi s v N := by
            intro v ev
            have hr2 := mvn_rng (B := B) (s := s) (j + 1) (fun i hi => hin i (by have := de_le (B := B) (s + j + 1); omega))
            unfold w_m_readNumber_j0
            refine ⟨by omega, ?_⟩
            (intro N3 eN3; subst eN3)
            intro z ez _ _
            rw [ms_n (by decide), H.1] at ez
            refine ⟨by omega, ?_⟩
            (intro N4 eN4; subst eN4)
            refine ih (j + 1) _ (by omega) (H.nu.at_ (by omega)) ?_ (by omega) (show de B (s + (j + 1)) = de B s from hgo2.symm.trans e)
            rw [ms_n (by decide), ms_s]; exact ev
          have ew : mvn B s (j + 1) = if mvn B s j ≤ 10000 then 10 * mvn B s j + B 37 ((s + j : Nat) : Int) - 48 else mvn B s j := rfl
          (intro u eu _ _; have eu : u = N 12 65 := eu)
          rw [hn] at eu
          refine ⟨fun h5 => ?_, fun h5 => ?_⟩
          · (intro u2 eu2 _ _; have eu2 : u2 = N 12 65 := eu2)
            rw [hn] at eu2
            (intro x2 ex2 _ _; have ex2 : x2 = N 12 62 := ex2)
            rw [H.1] at ex2
            refine ⟨by omega, ?_⟩
            (intro y2 ey2 _ _; have ey2 : y2 = N 98 x2 := ey2)
            rw [H.2.2.2.2.1, ex2] at ey2
            exact J _ (by rw [ew, if_pos (by omega), eu2, ey2])
          · (intro u2 eu2 _ _; have eu2 : u2 = N 12 65 := eu2)
            rw [hn] at eu2
            exact J _ (by rw [ew, if_neg (by omega), eu2])
    exact key (200 - s) 0 _ (by omega) H0.nu ms_s hs rfl
end MREAD
