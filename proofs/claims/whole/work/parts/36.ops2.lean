-- layer
abbrev lyB (B : Mem) (c kd th lo : Int) : Mem := mset (mset (mset (mset (mset (mset B 3 (c * 6 + B 2 c) kd) 4 (c * 6 + B 2 c) th) 5 (c * 6 + B 2 c) 1) 6 ((c * 6 + B 2 c) * 3) lo) 7 ((c * 6 + B 2 c) * 3) 1) 2 c (B 2 c + 1)
abbrev okLy (kd th lo : Int) : Prop := 0 ≤ kd ∧ kd ≤ 3 ∧ 1 ≤ th ∧ th ≤ 60 ∧ 0 ≤ lo ∧ lo ≤ 100
theorem addValue_ok {M : Mem} {c k v w : Int} {Q : Int → Mem → Prop} (h1 : 0 ≤ c * 6 + k ∧ c * 6 + k < 36) (hn : 0 ≤ M 24 (c * 6 + k) ∧ M 24 (c * 6 + k) < 3) (hv : 0 ≤ v ∧ v ≤ 100) (hw : 0 ≤ w ∧ w ≤ 9)
    (kk : Q (M 24 (c * 6 + k) + 1) (mset (mset (mset M 25 ((c * 6 + k) * 3 + M 24 (c * 6 + k)) v) 26 ((c * 6 + k) * 3 + M 24 (c * 6 + k)) w) 24 (c * 6 + k) (M 24 (c * 6 + k) + 1))) : w_Ground_addValue M c k v w Q := by
  unfold w_Ground_addValue
  refine ⟨h1, ?_⟩
  (intro a ea _ _; have ea : a = M 24 (c * 6 + k) := ea)
  subst ea
  refine And.intro ⟨by omega, by omega⟩ ?_
  (intro N1 eN1; subst eN1)
  refine And.intro ⟨by omega, by omega⟩ ?_
  (intro N2 eN2; subst eN2)
  refine And.intro ⟨by omega, by omega⟩ ?_
  (intro N3 eN3; subst eN3)
  exact kk
theorem S_layer_ok {M B : Mem} {c kd th lo : Int} {Q : Int → Mem → Prop} (hC : CB M B) (hR : RB B) (hW : WF B) (hc : R32 c) (hk : R32 kd) (ht : R32 th) (hl : R32 lo) (kU : ¬ (0 ≤ c ∧ c < 6) → Q (-1001) M) (kO : 0 ≤ c ∧ c < 6 → ¬ okLy kd th lo → Q (-1002) M) (kF : 0 ≤ c ∧ c < 6 → okLy kd th lo → B 2 c = 6 → Q (-1004) M)
    (kk : 0 ≤ c ∧ c < 6 → okLy kd th lo → B 2 c < 6 → ∀ N, CB N (lyB B c kd th lo) → sme kM M N → N 5 9 = 0 → N 5 6 = M 5 6 → Q (B 2 c) N) : w_S_layer M c kd th lo Q := by
  unfold w_S_layer
  refine hasColumn_ok hc (fun h => ?_) (fun c0 c6 => ?_)
  · (first | refine t0n ?_ | refine t0e ?_)
    exact kU h
  (first | refine t1n ?_ | refine t1e ?_)
  refine S_beyond_ok hk (by decide) (by decide) (fun h => ?_) (fun w0 w1 => ?_)
  · (first | refine t1n ?_ | refine t1e ?_)
    exact kO ⟨c0, c6⟩ (by unfold okLy; omega)
  (first | refine t0n ?_ | refine t0e ?_)
  refine S_beyond_ok ht (by decide) (by decide) (fun h => ?_) (fun t0 t1 => ?_)
  · (first | refine t1n ?_ | refine t1e ?_)
    exact kO ⟨c0, c6⟩ (by unfold okLy; omega)
  (first | refine t0n ?_ | refine t0e ?_)
  refine S_beyond_ok hl (by decide) (by decide) (fun h => ?_) (fun l0 l1 => ?_)
  · (first | refine t1n ?_ | refine t1e ?_)
    exact kO ⟨c0, c6⟩ (by unfold okLy; omega)
  (first | refine t0n ?_ | refine t0e ?_)
  have ok : okLy kd th lo := ⟨w0, w1, t0, t1, l0, l1⟩
  refine ⟨by omega, ?_⟩
  (intro a ea _ _; have ea : a = M 21 c := ea)
  rw [c_layers hC] at ea
  refine ⟨fun h => ?_, fun h => kF ⟨c0, c6⟩ ok (by omega)⟩
  refine forget_ok ?_
  have hC1 : CB (mset M 5 9 0) B := hC.skipF 5 (by decide)
  unfold w_Ground_addLayer
  refine ⟨by omega, ?_⟩
  (intro b eb _ _; have eb : b = M 21 c := eb)
  rw [c_layers hC] at eb
  have eab : b = a := by omega
  subst eab
  refine And.intro ⟨by omega, by omega⟩ ?_
  (intro N1 eN1; subst eN1)
  refine And.intro ⟨by omega, by omega⟩ ?_
  (intro N2 eN2; subst eN2)
  refine And.intro ⟨by omega, by omega⟩ ?_
  (intro N3 eN3; subst eN3)
  have hv0 : M 24 (c * 6 + b) = 0 := by
    rw [c_values hC]
    exact hW.2.2.2.2.2.2.2.2.2.2.1 c b c0 c6 (by omega) (by omega)
  have hv1 : (mset (mset (mset (mset M 5 9 0) 22 (c * 6 + b) kd) 23 (c * 6 + b) th) 21 c (b + 1)) 24 (c * 6 + b) = 0 := hv0
  refine addValue_ok (by omega) (by rw [hv1]; omega) (by omega) (by omega) ?_
  rw [hv1]
  have h5 := ((((((hC1.setA 3 22 (i := c * 6 + b) (z := kd) (by decide)).setA 4 23 (i := c * 6 + b) (z := th) (by decide)).setA 2 21 (i := c) (z := b + 1) (by decide)).setA 6 25 (i := (c * 6 + b) * 3 + 0) (z := lo) (by decide)).setA 7 26 (i := (c * 6 + b) * 3 + 0) (z := 1) (by decide)).setA 5 24 (i := c * 6 + b) (z := 0 + 1) (by decide))
  rw [mset_comm (h := 2) (h' := 6) (by decide), mset_comm (h := 2) (h' := 7) (by decide), mset_comm (h := 2) (h' := 5) (by decide), mset_comm (h := 7) (h' := 5) (by decide), mset_comm (h := 6) (h' := 5) (by decide)] at h5
  rw [Int.add_zero] at h5
  rw [Int.add_zero]
  have := kk ⟨c0, c6⟩ ok (by omega) _ (by unfold lyB; rw [← ea]; exact h5) ?_ ?_ ?_
  · rw [← ea] at this; exact this
  · exact ((((((sme.rf.s (by decide)).s (by decide)).s (by decide)).s (by decide)).s (by decide)).s (by decide)).s (by decide)
  · rfl
  · rfl
theorem m_layer_ok {M B : Mem} {c kd th lo : Int} {Q : Int → Mem → Prop} (hM : MB M B) (hc : R32 c) (hk : R32 kd) (ht : R32 th) (hl : R32 lo) (kU : ¬ (0 ≤ c ∧ c < 6) → Q (-1001) M) (kO : 0 ≤ c ∧ c < 6 → ¬ okLy kd th lo → Q (-1002) M) (kF : 0 ≤ c ∧ c < 6 → okLy kd th lo → B 2 c = 6 → Q (-1004) M)
    (kk : 0 ≤ c ∧ c < 6 → okLy kd th lo → B 2 c < 6 → ∀ N, MB N (lyB B c kd th lo) → sme kC M N → (∀ c : Int, 0 ≤ c → c < 6 → N 66 c = 0) → Q (B 2 c) N) : w_m_layer M c kd th lo Q := by
  unfold w_m_layer
  refine m_isColumn_ok hc (fun h => ?_) (fun c0 c6 => ?_)
  · (first | refine t0n ?_ | refine t0e ?_)
    exact kU h
  (first | refine t1n ?_ | refine t1e ?_)
  refine ⟨hk, m_in_ok hk (by decide) (by decide) (fun h => ?_) (fun w0 w1 => ?_)⟩
  · (first | refine t0n ?_ | refine t0e ?_)
    exact kO ⟨c0, c6⟩ (by unfold okLy; omega)
  (first | refine t1n ?_ | refine t1e ?_)
  refine ⟨ht, m_in_ok ht (by decide) (by decide) (fun h => ?_) (fun t0 t1 => ?_)⟩
  · (first | refine t0n ?_ | refine t0e ?_)
    exact kO ⟨c0, c6⟩ (by unfold okLy; omega)
  (first | refine t1n ?_ | refine t1e ?_)
  refine ⟨hl, m_in_ok hl (by decide) (by decide) (fun h => ?_) (fun l0 l1 => ?_)⟩
  · (first | refine t0n ?_ | refine t0e ?_)
    exact kO ⟨c0, c6⟩ (by unfold okLy; omega)
  (first | refine t1n ?_ | refine t1e ?_)
  have ok : okLy kd th lo := ⟨w0, w1, t0, t1, l0, l1⟩
  refine ⟨by omega, ?_⟩
  (intro a ea _ _; have ea : a = M 55 c := ea)
  rw [m_layers hM] at ea
  refine ⟨fun h => ?_, fun h => kF ⟨c0, c6⟩ ok (by omega)⟩
  refine ⟨by omega, ?_⟩
  (intro b eb _ _; have eb : b = M 55 c := eb)
  rw [m_layers hM] at eb
  have eab : b = a := by omega
  subst eab
  refine And.intro ⟨by omega, by omega⟩ ?_
  (intro N1 eN1; subst eN1)
  refine And.intro ⟨by omega, by omega⟩ ?_
  (intro N2 eN2; subst eN2)
  refine And.intro (by omega) ?_
  (intro N3 eN3; subst eN3)
  refine And.intro ⟨by omega, by omega⟩ ?_
  (intro N4 eN4; subst eN4)
  refine And.intro (by omega) ?_
  (intro N5 eN5; subst eN5)
  refine ⟨by omega, ?_⟩
  (intro d ed _ _; have ed : d = M 55 c := ed)
  rw [m_layers hM] at ed
  refine And.intro ⟨by omega, by omega⟩ ?_
  (intro N6 eN6; subst eN6)
  refine m_change_B (fun N hN K f0 fo => ⟨by omega, ?_⟩)
  (intro f ef _ _; have ef : f = N 55 c := ef)
  have h5 := hN _ ((((((hM.setA 3 56 (i := 6 * c + b) (z := kd) (by decide)).setA 4 57 (i := 6 * c + b) (z := th) (by decide)).setA 5 58 (i := 6 * c + b) (z := 1) (by decide)).setA 6 59 (i := 3 * (6 * c + b)) (z := lo) (by decide)).setA 7 60 (i := 3 * (6 * c + b)) (z := 1) (by decide)).setA 2 55 (i := c) (z := d + 1) (by decide))
  rw [m_layers h5] at ef
  have ef : f = d + 1 := ef.trans ms_s
  have e3 : f - 1 = B 2 c := by omega
  rw [e3]
  refine kk ⟨c0, c6⟩ ok (by omega) N ?_ (((((((sme.rf.s (by decide)).s (by decide)).s (by decide)).s (by decide)).s (by decide)).s (by decide)).trans K) f0
  unfold lyB
  rw [show 6 * c + b = c * 6 + B 2 c by omega, show 3 * (c * 6 + B 2 c) = (c * 6 + B 2 c) * 3 by omega, show d = B 2 c from ed] at h5
  exact h5
theorem wf_layer {B : Mem} {c kd th lo : Int} (hW : WF B) (hR : RB B) (hc : 0 ≤ c ∧ c < 6) (hl : B 2 c < 6) : WF (lyB B c kd th lo) := by
  obtain ⟨h1, h2, h3, h4, h5, h6, h7, h8, h9, h10, h11, h12, h13, h14, h15⟩ := hW
  have hl0 := b_layers hR c
  refine ⟨fun d k d0 d6 k0 hk => ?_, h2, h3, h4, h5, h6, h7, h8, fun i i0 i1 => ⟨fun e => ?_, (h9 i i0 i1).2⟩, fun i i0 i1 => ?_, fun d k d0 d6 hk k6 => ?_, h12, h13, fun a j a0 a1 j0 j1 => ?_, h15⟩
  · show 1 ≤ (mset B 5 (c * 6 + B 2 c) 1) 5 (d * 6 + k)
    have hk : k < (mset B 2 c (B 2 c + 1)) 2 d := hk
    by_cases e : d * 6 + k = c * 6 + B 2 c
    · rw [e, ms_s]; decide
    · rw [ms_n e]
      by_cases e2 : d = c
      · subst e2
        rw [ms_s] at hk
        exact h1 d k d0 d6 k0 (by omega)
      · rw [ms_n e2] at hk
        exact h1 d k d0 d6 k0 hk
  · have := (h9 i i0 i1).1 e
    show B 14 i < (mset B 2 c (B 2 c + 1)) 2 (B 12 i)
    by_cases e2 : B 12 i = c
    · rw [e2, ms_s]; rw [e2] at this; omega
    · rw [ms_n e2]; exact this
  · have := h10 i i0 i1
    show B 29 i < (mset B 2 c (B 2 c + 1)) 2 (B 28 i)
    by_cases e2 : B 28 i = c
    · rw [e2, ms_s]; rw [e2] at this; omega
    · rw [ms_n e2]; exact this
  · show (mset B 5 (c * 6 + B 2 c) 1) 5 (d * 6 + k) = 0
    have hk : (mset B 2 c (B 2 c + 1)) 2 d ≤ k := hk
    have hd0 := b_layers hR d
    by_cases e2 : d = c
    · subst e2
      rw [ms_s] at hk
      rw [ms_n (by omega)]
      exact h11 d k d0 d6 (by omega) k6
    · rw [ms_n e2] at hk
      rw [ms_n (by omega)]
      exact h11 d k d0 d6 hk k6
  · show 1 ≤ (mset B 7 ((c * 6 + B 2 c) * 3) 1) 7 (a * 3 + j)
    have j1 : j < (mset B 5 (c * 6 + B 2 c) 1) 5 a := j1
    by_cases e : a * 3 + j = (c * 6 + B 2 c) * 3
    · rw [e, ms_s]; decide
    · rw [ms_n e]
      by_cases e2 : a = c * 6 + B 2 c
      · rw [e2, ms_s] at j1; exact absurd (show a * 3 + j = (c * 6 + B 2 c) * 3 by omega) e
      · rw [ms_n e2] at j1; exact h14 a j a0 a1 j0 j1
theorem both_layer {M B : Mem} {c kd th lo : Int} {Q : Int → Int → Mem → Prop} (I : Inv M B) (hc : R32 c) (hk : R32 kd) (ht : R32 th) (hl : R32 lo) (k : ∀ (r : Int) (N B' : Mem), Inv N B' → Q r r N) : w_S_layer M c kd th lo (fun r M1 => w_m_layer M1 c kd th lo (fun r2 M2 => Q r r2 M2)) := by
  obtain ⟨hC, hM, hR, hW, hS, hCC, hCM⟩ := id I
  refine S_layer_ok hC hR hW hc hk ht hl (fun h => ?_) (fun h1 h2 => ?_) (fun h1 h2 h3 => ?_) (fun h1 h2 h3 N hN hk1 hlk hst => ?_)
  · exact m_layer_ok hM hc hk ht hl (fun _ => k _ _ _ I) (fun a => absurd a h) (fun a => absurd a h) (fun a => absurd a h)
  · exact m_layer_ok hM hc hk ht hl (fun a => absurd h1 a) (fun _ _ => k _ _ _ I) (fun _ a => absurd a h2) (fun _ a => absurd a h2)
  · exact m_layer_ok hM hc hk ht hl (fun a => absurd h1 a) (fun _ a => absurd h2 a) (fun _ _ _ => k _ _ _ I) (fun _ _ a => absurd a (by omega))
  · have hl0 := b_layers hR c
    obtain ⟨o1, o2, o3, o4, o5, o6⟩ := id h2
    have H : Half N B (lyB B c kd th lo) := ⟨hN, hM.km hk1, ((((((hR.set 3 o1 o2).set 4 (show (0 : Int) ≤ th by omega) o4).set 5 (by decide) (by decide)).set 6 o5 o6).set 7 (by decide) (by decide)).set 2 (show (0 : Int) ≤ _ by omega) (show _ ≤ (6 : Int) by omega)), wf_layer hW hR h1 h3, fun i hi => by rw [hst]; exact hS i hi, CC.none hlk⟩
    exact m_layer_ok (hM.km hk1) hc hk ht hl (fun a => absurd h1 a) (fun _ a => absurd h2 a) (fun _ _ a => absurd a (by omega)) (fun _ _ _ O hO K f0 => k _ _ _ (H.inv K hO (CM.none f0)))
