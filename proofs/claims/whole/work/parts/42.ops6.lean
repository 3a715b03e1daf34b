-- word
abbrev wdB (B : Mem) (c d a l u : Int) : Mem := mset (mset (mset (mset (mset (mset B 12 (B 11 0) c) 13 (B 11 0) d) 14 (B 11 0) a) 15 (B 11 0) l) 16 (B 11 0) u) 11 0 (B 11 0 + 1)
abbrev knW (B : Mem) (c d a : Int) : Prop := (0 ≤ c ∧ c < 6) ∧ ((d = 2 ∧ 0 ≤ a ∧ a < B 2 c) ∨ (d ≠ 2 ∧ 0 ≤ a ∧ a < B 20 0))
abbrev okW (d l u : Int) : Prop := d = 2 → 0 ≤ l ∧ l ≤ u ∧ u ≤ 100
theorem mset_id {M : Mem} {h : Nat} {i z : Int} (e : M h i = z) : mset M h i z = M := by
  funext a
  by_cases ha : a = h
  · subst ha
    rw [mset_eq]
    funext j
    by_cases hj : j = i
    · simp [hj, e]
    · simp [hj]
  · rw [mset_ne ha]
theorem S_word_ok {M B : Mem} {c d a l u : Int} {Q : Int → Mem → Prop} (hC : CB M B) (hR : RB B) (hc : R32 c) (hd : R32 d) (ha : R32 a) (hl : R32 l) (hu : R32 u) (kK : ¬ (0 ≤ d ∧ d ≤ 2) → Q (-1002) M) (kU : 0 ≤ d ∧ d ≤ 2 → ¬ knW B c d a → Q (-1001) M) (kO : 0 ≤ d ∧ d ≤ 2 → knW B c d a → ¬ okW d l u → Q (-1002) M) (kF : 0 ≤ d ∧ d ≤ 2 → knW B c d a → okW d l u → B 11 0 = 16 → Q (-1004) M)
    (kk : 0 ≤ d ∧ d ≤ 2 → knW B c d a → okW d l u → B 11 0 < 16 → ∀ N, CB N (wdB B c d a l u) → sme kM M N → N 5 9 = 0 → N 5 6 = M 5 6 → Q (B 11 0) N) : w_S_word M c d a l u Q := by
  have hn := b_words hR 0
  have hsh := b_shakes hR 0
  have hly := b_layers hR c
  have fin : ∀ (h1 : 0 ≤ d ∧ d ≤ 2) (h2 : knW B c d a) (h3 : okW d l u), w_S_word_j1 Q c d a l u M := by
    intro h1 h2 h3
    unfold w_S_word_j1
    (intro b eb _ _; have eb : b = M 5 5 := eb)
    rw [c_words hC] at eb
    refine ⟨fun h => ?_, fun h => kF h1 h2 h3 (by omega)⟩
    refine forget_ok ?_
    have hc1 : CB (mset M 5 9 0) B := hC.skipF 5 (by decide)
    unfold w_Words_addWord
    (intro b0 eb0 _ _; have eb0 : b0 = M 5 5 := eb0)
    rw [c_words hC] at eb0
    subst eb0
    refine And.intro ⟨by omega, by omega⟩ ?_
    (intro N0 eN0; subst eN0)
    (intro b1 eb1 _ _; have eb1 : b1 = M 5 5 := eb1)
    rw [c_words hC] at eb1
    subst eb1
    refine And.intro ⟨by omega, by omega⟩ ?_
    (intro N1 eN1; subst eN1)
    (intro b2 eb2 _ _; have eb2 : b2 = M 5 5 := eb2)
    rw [c_words hC] at eb2
    subst eb2
    refine And.intro ⟨by omega, by omega⟩ ?_
    (intro N2 eN2; subst eN2)
    (intro b3 eb3 _ _; have eb3 : b3 = M 5 5 := eb3)
    rw [c_words hC] at eb3
    subst eb3
    refine And.intro ⟨by omega, by omega⟩ ?_
    (intro N3 eN3; subst eN3)
    (intro b4 eb4 _ _; have eb4 : b4 = M 5 5 := eb4)
    rw [c_words hC] at eb4
    subst eb4
    refine And.intro ⟨by omega, by omega⟩ ?_
    (intro N4 eN4; subst eN4)
    (intro b5 eb5 _ _; have eb5 : b5 = M 5 5 := eb5)
    rw [c_words hC] at eb5
    subst eb5
    refine And.intro (by omega) ?_
    (intro N5 eN5; subst eN5)
    (intro f ef _ _; have ef : f = B 11 0 + 1 := ef)
    rw [show f - 1 = B 11 0 by omega]
    refine kk h1 h2 h3 (by omega) _ ((((((hc1.setA 12 31 (by decide)).setA 13 32 (by decide)).setA 14 33 (by decide)).setA 15 34 (by decide)).setA 16 35 (by decide)).setF 11 5 (by decide)) ?_ rfl rfl
    exact ((((((sme.rf.s (by decide)).s (by decide)).s (by decide)).s (by decide)).s (by decide)).s (by decide)).s (by decide)
  have mid : ∀ (h1 : 0 ≤ d ∧ d ≤ 2) (h2 : knW B c d a), w_S_word_j0 Q c d a l u M := by
    intro h1 h2
    unfold w_S_word_j0
    refine ⟨hd, fun h => fin h1 h2 (fun z => absurd z h), fun h => ?_⟩
    refine S_beyond_ok hl (by decide) (by decide) (fun z => ?_) (fun z1 z2 => ?_)
    · (first | refine t1n ?_ | refine t1e ?_)
      exact kO h1 h2 (fun z9 => by have := z9 h; omega)
    (first | refine t0n ?_ | refine t0e ?_)
    refine S_beyond_ok hu (by omega) (by decide) (fun z => ?_) (fun z3 z4 => ?_)
    · (first | refine t1n ?_ | refine t1e ?_)
      exact kO h1 h2 (fun z9 => by have := z9 h; omega)
    (first | refine t0n ?_ | refine t0e ?_)
    exact fin h1 h2 (fun _ => ⟨z1, z3, z4⟩)
  unfold w_S_word
  refine S_beyond_ok hd (by decide) (by decide) (fun h => ?_) (fun d0 d1 => ?_)
  · (first | refine t1n ?_ | refine t1e ?_)
    exact kK (by omega)
  (first | refine t0n ?_ | refine t0e ?_)
  refine hasColumn_ok hc (fun h => ?_) (fun c0 c6 => ?_)
  · (first | refine t0n ?_ | refine t0e ?_)
    exact kU ⟨d0, d1⟩ (fun z => h z.1)
  (first | refine t1n ?_ | refine t1e ?_)
  refine ⟨hd, fun h => ?_, fun h => ?_⟩
  · refine hasShake_ok hC ha (fun z => ?_) (fun z1 z2 => ?_)
    · (first | refine t0n ?_ | refine t0e ?_)
      exact kU ⟨d0, d1⟩ (fun w => by have := w.2; omega)
    (first | refine t1n ?_ | refine t1e ?_)
    exact mid ⟨d0, d1⟩ ⟨⟨c0, c6⟩, Or.inr ⟨h, z1, z2⟩⟩
  · refine hasLayer_ok hC hc ha (fun z => ?_) (fun _ _ z1 z2 => ?_)
    · (first | refine t0n ?_ | refine t0e ?_)
      exact kU ⟨d0, d1⟩ (fun w => by have := w.2; omega)
    (first | refine t1n ?_ | refine t1e ?_)
    exact mid ⟨d0, d1⟩ ⟨⟨c0, c6⟩, Or.inl ⟨h, z1, z2⟩⟩
theorem m_word_ok {M B : Mem} {c d a l u : Int} {Q : Int → Mem → Prop} (hM : MB M B) (hR : RB B) (hW : WF B) (hc : R32 c) (hd : R32 d) (ha : R32 a) (hl : R32 l) (hu : R32 u) (kK : ¬ (0 ≤ d ∧ d ≤ 2) → Q (-1002) M) (kU : 0 ≤ d ∧ d ≤ 2 → ¬ knW B c d a → Q (-1001) M) (kO : 0 ≤ d ∧ d ≤ 2 → knW B c d a → ¬ okW d l u → Q (-1002) M) (kF : 0 ≤ d ∧ d ≤ 2 → knW B c d a → okW d l u → B 11 0 = 16 → Q (-1004) M)
    (kk : 0 ≤ d ∧ d ≤ 2 → knW B c d a → okW d l u → B 11 0 < 16 → ∀ N, MB N (wdB B c d a l u) → sme kC M N → (∀ c : Int, 0 ≤ c → c < 6 → N 66 c = 0) → Q (B 11 0) N) : w_m_word M c d a l u Q := by
  have hn := b_words hR 0
  have hsh := b_shakes hR 0
  have hly := b_layers hR c
  have fin : ∀ (h1 : 0 ≤ d ∧ d ≤ 2) (h2 : knW B c d a) (h3 : okW d l u), w_m_word_j1 Q c d a l u M := by
    intro h1 h2 h3
    unfold w_m_word_j1
    (intro b eb _ _; have eb : b = M 12 26 := eb)
    rw [m_words hM] at eb
    refine ⟨fun h => ?_, fun h => kF h1 h2 h3 (by omega)⟩
    (intro b0 eb0 _ _; have eb0 : b0 = M 12 26 := eb0)
    rw [m_words hM] at eb0
    subst eb0
    refine And.intro ⟨by omega, by omega⟩ ?_
    (intro N0 eN0; subst eN0)
    (intro b1 eb1 _ _; have eb1 : b1 = M 12 26 := eb1)
    rw [m_words hM] at eb1
    subst eb1
    refine And.intro ⟨by omega, by omega⟩ ?_
    (intro N1 eN1; subst eN1)
    (intro b2 eb2 _ _; have eb2 : b2 = M 12 26 := eb2)
    rw [m_words hM] at eb2
    subst eb2
    refine And.intro ⟨by omega, by omega⟩ ?_
    (intro N2 eN2; subst eN2)
    (intro b3 eb3 _ _; have eb3 : b3 = M 12 26 := eb3)
    rw [m_words hM] at eb3
    subst eb3
    refine And.intro ⟨by omega, by omega⟩ ?_
    (intro N3 eN3; subst eN3)
    (intro b4 eb4 _ _; have eb4 : b4 = M 12 26 := eb4)
    rw [m_words hM] at eb4
    subst eb4
    refine And.intro ⟨by omega, by omega⟩ ?_
    (intro N4 eN4; subst eN4)
    (intro b6 eb6 _ _; have eb6 : b6 = M 12 26 := eb6)
    rw [m_words hM] at eb6
    subst eb6
    refine And.intro (by omega) ?_
    (intro N6 eN6; subst eN6)
    (intro b5 eb5 _ _; have eb5 : b5 = M 12 26 := eb5)
    rw [m_words hM] at eb5
    subst eb5
    refine And.intro (by omega) ?_
    (intro N5 eN5; subst eN5)
    refine m_change_B (fun N hN K f0 fo => ?_)
    (intro f ef _ _; have ef : f = N 12 26 := ef)
    have h5 := hN _ (((((((hM.setA 12 75 (i := B 11 0) (z := c) (by decide)).setA 13 76 (i := B 11 0) (z := d) (by decide)).setA 14 77 (i := B 11 0) (z := a) (by decide)).setA 15 78 (i := B 11 0) (z := l) (by decide)).setA 16 79 (i := B 11 0) (z := u) (by decide)).setA 22 80 (i := B 11 0) (z := 0) (by decide)).setF 11 12 (k := 26) (z := B 11 0 + 1) (by decide))
    rw [m_words h5] at ef
    have ef : f = B 11 0 + 1 := ef.trans ms_s
    rw [show f - 1 = B 11 0 by omega]
    refine kk h1 h2 h3 (by omega) N ?_ ((((((((sme.rf.s (by decide)).s (by decide)).s (by decide)).s (by decide)).s (by decide)).s (by decide)).s (by decide)).trans K) f0
    rw [mset_id (h := 22) (show (mset (mset (mset (mset (mset B 12 (B 11 0) c) 13 (B 11 0) d) 14 (B 11 0) a) 15 (B 11 0) l) 16 (B 11 0) u) 22 (B 11 0) = 0 from hW.2.2.2.2.2.2.2.2.2.2.2.1 _ (Int.le_refl _) (by omega))] at h5
    exact h5
  have mid : ∀ (h1 : 0 ≤ d ∧ d ≤ 2) (h2 : knW B c d a), w_m_word_j0 Q c d a l u M := by
    intro h1 h2
    unfold w_m_word_j0
    refine ⟨hd, fun h => fin h1 h2 (fun z => absurd z h), fun h => ?_⟩
    refine ⟨hu, m_in_ok hu (by decide) (by decide) (fun z => ?_) (fun z1 z2 => ?_)⟩
    · (first | refine t0n ?_ | refine t0e ?_)
      exact kO h1 h2 (fun z9 => by have := z9 h; omega)
    (first | refine t1n ?_ | refine t1e ?_)
    refine ⟨hl, hu, m_in_ok hl (by decide) (by omega) (fun z => ?_) (fun z3 z4 => ?_)⟩
    · (first | refine t0n ?_ | refine t0e ?_)
      exact kO h1 h2 (fun z9 => by have := z9 h; omega)
    (first | refine t1n ?_ | refine t1e ?_)
    exact fin h1 h2 (fun _ => ⟨z3, z4, z2⟩)
  unfold w_m_word
  refine ⟨hd, m_in_ok hd (by decide) (by decide) (fun h => ?_) (fun d0 d1 => ?_)⟩
  · (first | refine t0n ?_ | refine t0e ?_)
    exact kK (by omega)
  (first | refine t1n ?_ | refine t1e ?_)
  refine m_isColumn_ok hc (fun h => ?_) (fun c0 c6 => ?_)
  · (first | refine t0n ?_ | refine t0e ?_)
    exact kU ⟨d0, d1⟩ (fun z => h z.1)
  (first | refine t1n ?_ | refine t1e ?_)
  refine ⟨hd, fun h => ?_, fun h => ?_⟩
  · refine m_isLayer_ok hM hc ha (fun z => ?_) (fun _ _ z1 z2 => ?_)
    · (first | refine t0n ?_ | refine t0e ?_)
      exact kU ⟨d0, d1⟩ (fun w => by have := w.2; omega)
    (first | refine t1n ?_ | refine t1e ?_)
    exact mid ⟨d0, d1⟩ ⟨⟨c0, c6⟩, Or.inl ⟨by omega, z1, z2⟩⟩
  · refine m_isShake_ok hM ha (fun z => ?_) (fun z1 z2 => ?_)
    · (first | refine t0n ?_ | refine t0e ?_)
      exact kU ⟨d0, d1⟩ (fun w => by have := w.2; omega)
    (first | refine t1n ?_ | refine t1e ?_)
    exact mid ⟨d0, d1⟩ ⟨⟨c0, c6⟩, Or.inr ⟨by omega, z1, z2⟩⟩
theorem both_word {M B : Mem} {c d a l u : Int} {Q : Int → Int → Mem → Prop} (I : Inv M B) (hc : R32 c) (hd : R32 d) (ha : R32 a) (hl : R32 l) (hu : R32 u) (k : ∀ (r : Int) (N B' : Mem), Inv N B' → Q r r N) : w_S_word M c d a l u (fun r M1 => w_m_word M1 c d a l u (fun r2 M2 => Q r r2 M2)) := by
  obtain ⟨hC, hM, hR, hW, hS, hCC, hCM⟩ := id I
  have hn := b_words hR 0
  refine S_word_ok hC hR hc hd ha hl hu (fun h => ?_) (fun h1 h2 => ?_) (fun h1 h2 h3 => ?_) (fun h1 h2 h3 h4 => ?_) (fun h1 h2 h3 h4 N hN hk hlk hst => ?_)
  · exact m_word_ok hM hR hW hc hd ha hl hu (fun _ => k _ _ _ I) (fun z => absurd z h) (fun z => absurd z h) (fun z => absurd z h) (fun z => absurd z h)
  · exact m_word_ok hM hR hW hc hd ha hl hu (fun z => absurd h1 z) (fun _ _ => k _ _ _ I) (fun _ z => absurd z h2) (fun _ z => absurd z h2) (fun _ z => absurd z h2)
  · exact m_word_ok hM hR hW hc hd ha hl hu (fun z => absurd h1 z) (fun _ z => absurd h2 z) (fun _ _ _ => k _ _ _ I) (fun _ _ z => absurd z h3) (fun _ _ z => absurd z h3)
  · exact m_word_ok hM hR hW hc hd ha hl hu (fun z => absurd h1 z) (fun _ z => absurd h2 z) (fun _ _ z => absurd h3 z) (fun _ _ _ _ => k _ _ _ I) (fun _ _ _ z => absurd z (by omega))
  · have hsh := b_shakes hR 0
    have hly := b_layers hR c
    have hW' : WF (wdB B c d a l u) := by
      obtain ⟨g1, g2, g3, g4, g5, g6, g7, g8, g9, g10, g11, g12, g13⟩ := hW
      refine ⟨g1, g2, g3, g4, g5, g6, g7, g8, fun i i0 i1 => ?_, g10, g11, fun i i2 i3 => ?_, g13⟩
      · have i1 : i < B 11 0 + 1 := i1
        show ((mset B 13 (B 11 0) d) 13 i = 2 → (mset B 14 (B 11 0) a) 14 i < B 2 ((mset B 12 (B 11 0) c) 12 i)) ∧ ((mset B 13 (B 11 0) d) 13 i ≠ 2 → (mset B 14 (B 11 0) a) 14 i < B 20 0)
        by_cases e : i = B 11 0
        · rw [e, ms_s, ms_s, ms_s]
          have := h2.2
          omega
        · rw [ms_n e, ms_n e, ms_n e]
          exact g9 i i0 (by omega)
      · have i2 : B 11 0 + 1 ≤ i := i2
        exact g12 i (by omega) i3
    have hdb := h2.2
    have H : Half N B (wdB B c d a l u) := ⟨hN, hM.km hk, (((((hR.set 12 (show (0 : Int) ≤ c from h2.1.1) (show c ≤ (5 : Int) by have := h2.1.2; omega)).set 13 (show (0 : Int) ≤ d from h1.1) (show d ≤ (2 : Int) from h1.2)).set 14 (show (0 : Int) ≤ a by omega) (show a ≤ (5 : Int) by omega)).set 15 hl.1 hl.2).set 16 hu.1 hu.2).set 11 (show (0 : Int) ≤ _ by omega) (show _ ≤ (16 : Int) by omega), hW', fun i hi => by rw [hst]; exact hS i hi, CC.none hlk⟩
    exact m_word_ok (hM.km hk) hR hW hc hd ha hl hu (fun z => absurd h1 z) (fun _ z => absurd h2 z) (fun _ _ z => absurd h3 z) (fun _ _ _ z => absurd z (by omega)) (fun _ _ _ _ O hO K f0 => k _ _ _ (H.inv K hO (CM.none f0)))
