/-! ===== read, both sides ===== -/
theorem agr.pl {T : List (Nat × Nat × Option Int)} {M N B : Mem} (hM : agr T M B) (h : ∀ q ∈ T, match q.2.2 with
  | none => N q.2.1 = M q.2.1
  | some k => N q.2.1 k = M q.2.1 k) : agr T N B := by
  intro q hq
  have h1 := hM q hq
  have h2 := h q hq
  obtain ⟨q1, q2, q3⟩ := q
  cases q3 with
  | none => exact Eq.trans h2 h1
  | some k => exact Eq.trans h2 h1
def setR (M : Mem) (h : Nat) (r : Int → Int) : Mem := fun x => if x = h then r else M x
theorem setR_s {M : Mem} {h : Nat} {r : Int → Int} : setR M h r h = r := if_pos rfl
theorem setR_n {M : Mem} {h x : Nat} {r : Int → Int} (e : x ≠ h) : setR M h r x = M x := if_neg e
theorem agr.setRow {T : List (Nat × Nat × Option Int)} {M B : Mem} (hM : agr T M B) (j h : Nat) {r : Int → Int} (c : T.all (fun q => if q.1 = j then decide (q.2 = (h, none)) else q.2.1 != h) = true) : agr T (setR M h r) (setR B j r) := by
  intro q hq
  have h1 := hM q hq
  have h2 := List.all_eq_true.mp c q hq
  by_cases e : q.1 = j
  · simp only [e, if_true, decide_eq_true_eq] at h2
    obtain ⟨q1, q2, q3⟩ := q
    simp only [Prod.mk.injEq] at h2
    obtain ⟨rfl, rfl⟩ := h2
    have e : q1 = j := e
    subst e
    show setR M q2 r q2 = setR B q1 r q1
    rw [setR_s, setR_s]
  · simp only [e, if_false, bne_iff_ne, ne_eq] at h2
    obtain ⟨q1, q2, q3⟩ := q
    cases q3 with
    | none => show setR M h r q2 = setR B j r q1; rw [setR_n h2, setR_n e]; exact h1
    | some k => show setR M h r q2 k = setR B j r q1 0; rw [setR_n h2, setR_n e]; exact h1
/-- the state behind a reading -/
def rdF (B : Mem) (fa : Int) : Mem := mset (mset B 38 0 0) 39 0 fa
section RDB
variable {M N B : Mem}
theorem cb_read {fa : Int} (hC : CB M B) (h1 : N 11 1 = 0) (h2 : N 11 3 = fa) (h3 : N 52 = M 52) (f : ∀ q ∈ cTab, q.2.1 ≠ 11 → q.2.1 ≠ 51 → N q.2.1 = M q.2.1) : CB N (rdF B fa) := by
  have t : ∀ q ∈ cTab, q.2.1 ≠ 51 ∧ (q.2.1 = 11 → q.2.2 = some 1 ∨ q.2.2 = some 3) := by decide
  have base : CB (mset (mset M 11 1 0) 11 3 fa) (rdF B fa) := (hC.setF 38 11 (by decide)).setF 39 11 (by decide)
  refine base.pl (fun q hq => ?_)
  obtain ⟨t1, t2⟩ := t q hq
  have f := f q hq
  obtain ⟨q1, q2, q3⟩ := q
  by_cases e : q2 = 11
  · subst e
    rcases t2 rfl with z | z
    · have z : q3 = some 1 := z
      subst z
      show N 11 1 = mset (mset M 11 1 0) 11 3 fa 11 1
      rw [ms_n (by decide), ms_s]; exact h1
    · have z : q3 = some 3 := z
      subst z
      show N 11 3 = mset (mset M 11 1 0) 11 3 fa 11 3
      rw [ms_s]; exact h2
  · have e2 := f e t1
    cases q3 with
    | none => show N q2 = mset (mset M 11 1 0) 11 3 fa q2; rw [mset_ne e, mset_ne e]; exact e2
    | some k => show N q2 k = mset (mset M 11 1 0) 11 3 fa q2 k; rw [mset_ne e, mset_ne e]; exact congrFun e2 k
theorem mb_read {fa : Int} (hM : MB M B) (h1 : N 12 60 = 0) (h2 : N 12 61 = fa) (f : ∀ h, h ≠ 12 → h ≠ 65 → h ≠ 64 → N h = M h) (hr : N 64 = M 64) (g : ∀ k : Int, k ≠ 61 → k ≠ 62 → k ≠ 63 → k ≠ 64 → k ≠ 65 → k ≠ 60 → N 12 k = M 12 k) : MB N (rdF B fa) := by
  have t : ∀ q ∈ mTab, q.2.1 ≠ 65 ∧ (q.2.1 = 12 → q.2.2 = some 60 ∨ q.2.2 = some 61 ∨ (q.2.2 ≠ none ∧ q.2.2 ≠ some 61 ∧ q.2.2 ≠ some 62 ∧ q.2.2 ≠ some 63 ∧ q.2.2 ≠ some 64 ∧ q.2.2 ≠ some 65 ∧ q.2.2 ≠ some 60)) := by decide
  have base : MB (mset (mset M 12 60 0) 12 61 fa) (rdF B fa) := (hM.setF 38 12 (by decide)).setF 39 12 (by decide)
  refine base.pl (fun q hq => ?_)
  obtain ⟨t1, t2⟩ := t q hq
  obtain ⟨q1, q2, q3⟩ := q
  by_cases e : q2 = 12
  · subst e
    rcases t2 rfl with z | z | z
    · have z : q3 = some 60 := z
      subst z
      show N 12 60 = mset (mset M 12 60 0) 12 61 fa 12 60
      rw [ms_n (by decide), ms_s]; exact h1
    · have z : q3 = some 61 := z
      subst z
      show N 12 61 = mset (mset M 12 60 0) 12 61 fa 12 61
      rw [ms_s]; exact h2
    · cases q3 with
      | none => exact absurd rfl z.1
      | some k =>
        have a1 : k ≠ 61 := fun y => z.2.1 (by rw [y])
        have a2 : k ≠ 60 := fun y => z.2.2.2.2.2.2 (by rw [y])
        show N 12 k = mset (mset M 12 60 0) 12 61 fa 12 k
        rw [ms_n a1, ms_n a2]
        exact g k a1 (fun y => z.2.2.1 (by rw [y])) (fun y => z.2.2.2.1 (by rw [y])) (fun y => z.2.2.2.2.1 (by rw [y])) (fun y => z.2.2.2.2.2.1 (by rw [y])) a2
  · have e2 : N q2 = M q2 := by
      by_cases y : q2 = 64
      · rw [y]; exact hr
      · exact f q2 e t1 y
    cases q3 with
    | none => show N q2 = mset (mset M 12 60 0) 12 61 fa q2; rw [mset_ne e, mset_ne e]; exact e2
    | some k => show N q2 k = mset (mset M 12 60 0) 12 61 fa q2 k; rw [mset_ne e, mset_ne e]; exact congrFun e2 k
theorem rb_read {fa : Int} (hR : RB B) (h : -1 ≤ fa ∧ fa ≤ 200) : RB (rdF B fa) := (hR.set 38 (by decide) (by decide)).set 39 h.1 h.2
theorem wf_rule {r : Int → Int} (hW : WF B) (h : okDr r) : WF (setR B 10 r) := by
  obtain ⟨h1, h2, h3, h4, h5, h6, h7, h8, h9, h10, h11, h12, h13, h14, h15⟩ := hW
  have t : ∀ k : Nat, k < 4 → hiS ((5 * k + 2 : Nat) : Int) = 100 ∧ hiS ((5 * k : Nat) : Int) = 99 ∧ hiS ((5 * k + 3 : Nat) : Int) = 99 ∧ hiS ((5 * k + 4 : Nat) : Int) = 99 := by decide
  refine ⟨h1, fun k k0 k4 => ?_, ?_, ?_, ?_, ?_, ?_, ?_, h9, h10, h11, h12, h13, h14, h15⟩
  · obtain ⟨n, rfl⟩ : ∃ n : Nat, k = n := ⟨k.toNat, by omega⟩
    obtain ⟨t1, t2, t3, t4⟩ := t n (by omega)
    have a1 := (h (5 * n + 2) (by omega)).2
    have a2 := (h (5 * n) (by omega)).2
    have a3 := (h (5 * n + 3) (by omega)).2
    have a4 := (h (5 * n + 4) (by omega)).2
    rw [t1] at a1
    rw [t2] at a2
    rw [t3] at a3
    rw [t4] at a4
    rw [setR_s]
    rw [(show ((5 * n + 2 : Nat) : Int) = 5 * (n : Int) + 2 by omega)] at a1
    rw [(show ((5 * n : Nat) : Int) = 5 * (n : Int) by omega)] at a2
    rw [(show ((5 * n + 3 : Nat) : Int) = 5 * (n : Int) + 3 by omega)] at a3
    rw [(show ((5 * n + 4 : Nat) : Int) = 5 * (n : Int) + 4 by omega)] at a4
    exact ⟨a1, a2, a3, a4⟩
  · exact (h 22 (by decide)).2
  · exact (h 24 (by decide)).2
  · exact (h 20 (by decide)).2
  · exact (h 21 (by decide)).2
  · exact (h 23 (by decide)).1
  · exact (h 23 (by decide)).2
theorem rb_rule {r : Int → Int} (hR : RB B) (h : ∀ i : Int, 0 ≤ r i ∧ r i ≤ 999) : RB (setR B 10 r) := by
  intro j hj i
  by_cases e : j = 10
  · subst e
    rw [setR_s]
    exact h i
  · rw [setR_n e]
    exact hR j hj i
theorem wf_read {fa : Int} (hW : WF B) : WF (rdF B fa) := hW.cg rfl rfl rfl rfl rfl rfl rfl rfl rfl rfl rfl rfl rfl rfl rfl rfl
/-- places of faults -/
theorem place_rng (hR : RB B) : (rdR B).2.1 ≠ 0 → -1 ≤ (rdR B).2.2.1 ∧ (rdR B).2.2.1 ≤ 200 := by
  have ht := b_tlen hR 0
  have rp : ∀ (p : Nat) (s : Int) (D : Int → Int), (p : Int) ≤ B 38 0 → 0 ≤ (rul B p s D).2.1 ∧ (rul B p s D).2.1 ≤ B 38 0 := by
    intro p s D hp
    have : (sk B p : Int) ≤ B 38 0 := sk_L hp
    unfold rul
    split
    · exact ⟨show (0 : Int) ≤ 0 by decide, ht.1⟩
    · exact ⟨show (0 : Int) ≤ ((sk B p : Nat) : Int) by omega, this⟩
  have kp : ∀ (kd : Int) (d seen p : Nat) (D : Int → Int), (p : Int) ≤ B 38 0 → 0 ≤ (kl B kd d seen p D).2.1 ∧ (kl B kd d seen p D).2.1 ≤ B 38 0 := by
    intro kd d
    induction d with
    | zero => intro seen p D hp; exact ⟨show (0 : Int) ≤ 0 by decide, ht.1⟩
    | succ d ih =>
      intro seen p D hp
      have h1 : (sk B p : Int) ≤ B 38 0 := sk_L hp
      have h2 : (we B (sk B p) : Int) ≤ B 38 0 := we_L h1
      rw [kl]
      split
      · split
        · exact ⟨show (0 : Int) ≤ ((sk B p : Nat) : Int) by omega, h1⟩
        · split
          · exact ih _ _ _ (rul_pos hR h2).2
          · exact rp _ _ _ h2
      · exact ⟨show (0 : Int) ≤ ((sk B p : Nat) : Int) by omega, h1⟩
  have ep : ∀ r : Res, (r.2.2.1 : Int) ≤ B 38 0 → (0 ≤ r.2.1 ∧ r.2.1 ≤ B 38 0) → 0 ≤ (endc B r).2.1 ∧ (endc B r).2.1 ≤ B 38 0 := by
    intro r h1 h2
    have : (sk B r.2.2.1 : Int) ≤ B 38 0 := sk_L h1
    unfold endc
    split
    · split
      · exact ⟨show (0 : Int) ≤ 0 by decide, ht.1⟩
      · exact ⟨show (0 : Int) ≤ ((sk B r.2.2.1 : Nat) : Int) by omega, this⟩
    · exact h2
  have cp : ∀ (n : Int) (s : Nat) (D : Int → Int), (s : Int) ≤ B 38 0 → okDr D → 0 ≤ (cls B n s D).2.1 ∧ (cls B n s D).2.1 ≤ B 38 0 := by
    intro n s D hs hD
    have h2 : (we B s : Int) ≤ B 38 0 := we_L hs
    have hk := knd_ok hR (D := D) h2 hD
    have hr := rul_pos hR (s := wc B s (we B s - s)) (D := D) h2
    unfold cls
    split
    · exact ⟨show (0 : Int) ≤ (s : Int) by omega, hs⟩
    · split
      · exact ⟨show (0 : Int) ≤ (s : Int) by omega, hs⟩
      · split
        · refine ep _ hk.1.2 ?_
          unfold knd
          split
          · exact kp _ _ _ _ _ (numE_ok hR h2).2
          · have : (sk B (we B s) : Int) ≤ B 38 0 := sk_L h2
            exact ⟨show (0 : Int) ≤ ((sk B (we B s) : Nat) : Int) by omega, this⟩
        · exact ep _ hr.2 (rp _ _ _ h2)
  have pp : ∀ (d : Nat) (n : Int) (p : Nat) (D : Int → Int), (p : Int) ≤ B 38 0 → okDr D → (prs B d n p D).2.1 ≠ 0 → 0 ≤ (prs B d n p D).2.2.1 ∧ (prs B d n p D).2.2.1 ≤ B 38 0 := by
    intro d
    induction d with
    | zero => intro n p D hp hD h; exact absurd rfl h
    | succ d ih =>
      intro n p D hp hD h
      unfold prs at h ⊢
      by_cases e1 : (p : Int) < B 38 0
      · rw [if_pos e1] at h ⊢
        by_cases e2 : (cls B n p D).1 = 0
        · rw [if_pos e2] at h ⊢
          have := cls_ok hR hp hD e2
          exact ih _ _ _ (sk_L this.2.1) this.2.2 h
        · rw [if_neg e2]
          exact cp n p D hp hD
      · rw [if_neg e1] at h
        exact absurd rfl h
  intro h
  have := pp 200 0 (sk B 0) fiS (sk_L (by omega)) (fun s hs => (bdS s hs).2.2) h
  unfold rdR
  omega
theorem both_read {Q : Int → Int → Mem → Prop} (I : Inv M B) (k : ∀ (r : Int) (N B' : Mem), Inv N B' → Q r r N) : w_S_read M (fun r M1 => w_m_read M1 (fun r2 M2 => Q r r2 M2)) := by
  obtain ⟨hC, hM, hR, hW, hS, hCC, hCM⟩ := id I
  have ht := b_tlen hR 0
  have fs := cls_f (B := B)
  unfold w_S_read
  refine parse_ok hC hR (fun e0 N P => ?_) (fun e0 N x D P => ?_)
  · obtain ⟨p1, p2, p3, p4, p5, p6⟩ := P
    have hD : okDr (rdR B).2.2.2.2 := prs_ok hR 200 0 (sk B 0) fiS (sk_L (by omega)) (fun s hs => (bdS s hs).2.2) e0
    generalize hDD : (rdR B).2.2.2.2 = D at p3 hD
    (intro g eg _ _; have eg : g = N 11 2 := eg)
    rw [p1] at eg
    refine ⟨fun _ => ?_, fun z => absurd eg z⟩
    unfold w_Rules_become
    refine ⟨by decide, ?_⟩
    (intro N1 eN1; subst eN1)
    refine forget_ok ?_
    -- the class's half
    have rr : (mcpy N 51 0 30 0 25) 30 = rlR (B 10) D := by
      funext j
      unfold rlR
      by_cases z : 0 ≤ j ∧ j < 25
      · rw [if_pos z, mcpy_eq (by omega) (by omega), (show (0 : Int) + (j - 0) = j by omega)]
        exact p3 j z.1 z.2
      · rw [if_neg z]
        show (if 30 = 30 then (fun x => if 0 ≤ x ∧ x < 0 + 25 then N 51 (0 + (x - 0)) else N 30 x) else N 30) j = _
        rw [if_pos rfl]
        show (if 0 ≤ j ∧ j < 0 + 25 then N 51 (0 + (j - 0)) else N 30 j) = _
        rw [if_neg (by omega), p6 _ (by decide) (by decide), c_rule hC]
    generalize hO : mset (mcpy N 51 0 30 0 25) 5 9 0 = O
    have o1 : O 11 = N 11 := by rw [← hO, mset_ne (by decide), mcpy_ne (by decide)]
    have o2 : O 30 = rlR (B 10) D := by rw [← hO, mset_ne (by decide)]; exact rr
    have o3 : ∀ h, h ≠ 11 → h ≠ 51 → h ≠ 30 → h ≠ 5 → O h = M h := fun h a b c d => by rw [← hO, mset_ne d, mcpy_ne c]; exact p6 h a b
    have o4 : O 5 9 = 0 := by rw [← hO, ms_s]
    have o5 : ∀ k : Int, k ≠ 9 → O 5 k = M 5 k := fun k hk => by rw [← hO, ms_n hk, mcpy_ne (by decide), p6 _ (by decide) (by decide)]
    have kmO : sme kM M O := sme.of (fun q hq => o3 q.1 (by clear o3; revert q; decide) (by clear o3; revert q; decide) (by clear o3; revert q; decide) (by clear o3; revert q; decide))
    have hMO := hM.km kmO
    have c1 : CB (setR M 30 (rlR (B 10) D)) (setR B 10 (rlR (B 10) D)) := agr.setRow hC 10 30 (by decide)
    have cO : CB O (rdF (setR B 10 (rlR (B 10) D)) (-1)) := by
      have t : ∀ q ∈ cTab, q.2.1 = 5 → q.2.2 ≠ none ∧ q.2.2 ≠ some 9 := by decide
      have c2 : CB (setR (setR M 30 (rlR (B 10) D)) 5 (O 5)) (setR B 10 (rlR (B 10) D)) := by
        refine c1.pl (fun q hq => ?_)
        have t1 := t q hq
        obtain ⟨q1, q2, q3⟩ := q
        by_cases e : q2 = 5
        · subst e
          obtain ⟨t2, t3⟩ := t1 rfl
          cases q3 with
          | none => exact absurd rfl t2
          | some kk =>
            show setR (setR M 30 (rlR (B 10) D)) 5 (O 5) 5 kk = setR M 30 (rlR (B 10) D) 5 kk
            rw [setR_s, setR_n (by decide)]
            exact o5 kk (fun y => t3 (by rw [y]))
        · cases q3 with
          | none => show setR (setR M 30 (rlR (B 10) D)) 5 (O 5) q2 = _; rw [setR_n e]
          | some kk => show setR (setR M 30 (rlR (B 10) D)) 5 (O 5) q2 kk = _; rw [setR_n e]
      refine cb_read c2 (by rw [o1]; exact p4) (by rw [o1]; exact p2) ?_ (fun q hq a b => ?_)
      · rw [setR_n (by decide), setR_n (by decide)]
        exact o3 _ (by decide) (by decide) (by decide) (by decide)
      · by_cases e : q.2.1 = 5
        · rw [e, setR_s]
        · rw [setR_n e]
          by_cases e2 : q.2.1 = 30
          · rw [e2, setR_s]; exact o2
          · rw [setR_n e2]; exact o3 _ a b e2 e
    have hRn : ∀ i : Int, 0 ≤ rlR (B 10) D i ∧ rlR (B 10) D i ≤ 999 := by
      intro i
      unfold rlR
      by_cases z : 0 ≤ i ∧ i < 25
      · rw [if_pos z]
        have h1 := hD i.toNat (by omega)
        have h2 := bdS i.toNat (by omega)
        rw [(show ((i.toNat : Nat) : Int) = i by omega)] at h1 h2
        omega
      · rw [if_neg z]; exact b_rule hR i
    have hDr : okDr (rlR (B 10) D) := by
      intro s hs
      unfold rlR
      rw [if_pos (by omega)]
      exact hD s hs
    have hR' : RB (rdF (setR B 10 (rlR (B 10) D)) (-1)) := rb_read (rb_rule hR hRn) (by decide)
    have hW' : WF (rdF (setR B 10 (rlR (B 10) D)) (-1)) := wf_read (wf_rule hW hDr)
    have hS' : StC O (rdF (setR B 10 (rlR (B 10) D)) (-1)) := fun i hi => by rw [o5 _ (by decide)]; exact hS i hi
    -- the model's half
    refine m_read_ok hMO hR (fun _ P PP => ?_) (fun z => absurd e0 z)
    obtain ⟨q1, q2, q3, q4, q5⟩ := PP
    rw [hDD] at q3
    refine m_keep_ok q3 (fun T t1 t2 t3 => ?_)
    rw [q4 _ (by decide) (by decide), m_rule hMO] at t1
    have kcT : sme kC O T := sme.of (fun q hq => by
      rw [t3 q.1 (by clear o3 q4 t3; revert q; decide) (by clear o3 q4 t3; revert q; decide)]
      exact q4 q.1 (by clear o3 q4 t3; revert q; decide) (by clear o3 q4 t3; revert q; decide))
    have m1 : MB (setR O 64 (rlR (B 10) D)) (setR B 10 (rlR (B 10) D)) := agr.setRow hMO 10 64 (by decide)
    have mT0 : MB (setR T 66 (O 66)) (rdF (setR B 10 (rlR (B 10) D)) (-1)) := by
      refine mb_read m1 ?_ ?_ (fun h a b c => ?_) ?_ (fun kk a b c d e f => ?_)
      · rw [setR_n (by decide), t3 _ (by decide) (by decide)]; exact q2
      · rw [setR_n (by decide), t3 _ (by decide) (by decide)]; exact q1
      · rw [setR_n c]
        by_cases e : h = 66
        · rw [e, setR_s]
        · rw [setR_n e, t3 h c e]; exact q4 h a b
      · rw [setR_n (by decide), setR_s]; exact t1
      · rw [setR_n (by decide), setR_n (by decide), t3 _ (by decide) (by decide)]; exact q5 kk a b c d e f
    have mT : MB T (rdF (setR B 10 (rlR (B 10) D)) (-1)) := by
      have t : ∀ q ∈ mTab, q.2.1 ≠ 66 := by decide
      refine mT0.pl (fun q hq => ?_)
      have := t q hq
      obtain ⟨a1, a2, a3⟩ := q
      cases a3 with
      | none => show T a2 = setR T 66 (O 66) a2; rw [setR_n this]
      | some kk => show T a2 kk = setR T 66 (O 66) a2 kk; rw [setR_n this]
    exact k _ T _ ⟨cO.kc kcT, mT, hR', hW', hS'.kc kcT, CC.none (by rw [kc_looked kcT]; exact o4), CM.none t2⟩
  · obtain ⟨p1, p2, p3, p4, p5, p6⟩ := P
    have hpl := place_rng hR e0
    (intro g eg _ _; have eg : g = N 11 2 := eg)
    rw [p1] at eg
    refine ⟨fun z => absurd (eg.symm.trans z) e0, fun _ => ?_⟩
    (intro g2 eg2 _ _; have eg2 : g2 = N 11 2 := eg2)
    rw [p1] at eg2
    rw [eg2]
    have kmN : sme kM M N := sme.of (fun q hq => p6 q.1 (by clear p6; revert q; decide) (by clear p6; revert q; decide))
    have hMN := hM.km kmN
    have cN : CB N (rdF B (rdR B).2.2.1) := cb_read hC p4 p2 p5 (fun q hq a b => p6 _ a b)
    have hcu : cut (rdF B (rdR B).2.2.1) = cut B := (cut_hi (by decide)).trans (cut_hi (by decide))
    have hCCN : CC N (rdF B (rdR B).2.2.1) := CC.cg (fun c hc hl => by rw [p6 5 (by decide) (by decide)] at hl; rw [p6 36 (by decide) (by decide), p6 37 (by decide) (by decide)]; exact hCC c hc hl) hcu
    have hSN : StC N (rdF B (rdR B).2.2.1) := fun i hi => by rw [p6 5 (by decide) (by decide)]; exact hS i hi
    refine m_read_ok hMN hR (fun z => absurd z e0) (fun _ T D2 PP => ?_)
    obtain ⟨q1, q2, q3, q4, q5⟩ := PP
    have kcT : sme kC N T := sme.of (fun q hq => q4 q.1 (by clear p6 q4; revert q; decide) (by clear p6 q4; revert q; decide))
    have mT : MB T (rdF B (rdR B).2.2.1) := mb_read hMN q2 q1 (fun h a b _ => q4 h a b) (q4 _ (by decide) (by decide)) q5
    have hcm : CM T B := fun c h0 hc hl => by
      rw [q4 66 (by decide) (by decide)] at hl
      rw [q4 67 (by decide) (by decide), q4 82 (by decide) (by decide)]
      exact (hCM.km kmN) c h0 hc hl
    exact k _ T _ ⟨cN.kc kcT, mT, rb_read hR hpl, wf_read hW, hSN.kc kcT, hCCN.kc kcT, hcm.cg hcu rfl⟩
end RDB
