/-! ===== the class's run ===== -/
section CRUN
variable {M N O B : Mem} {c q : Int} {ch : Nat → Int} {mo le : Int}
/-- behind begin -/
def TrB (M B : Mem) (c : Int) (ch : Nat → Int) : Prop := M 1 9 = c ∧ M 1 10 = (nly B c : Nat) ∧ (∀ k : Nat, k < nly B c → M 13 k = ch k ∧ 0 ≤ ch k ∧ ch k < B 5 (c * 6 + k)) ∧ CB M B ∧ RB B ∧ WF B ∧ 0 ≤ c ∧ c < 6
theorem TrB.col (h : TrB M B c ch) : M 1 9 = c := h.1
theorem TrB.lay (h : TrB M B c ch) : M 1 10 = (nly B c : Nat) := h.2.1
theorem TrB.cho (h : TrB M B c ch) : ∀ k : Nat, k < nly B c → M 13 k = ch k ∧ 0 ≤ ch k ∧ ch k < B 5 (c * 6 + k) := h.2.2.1
theorem TrB.hC (h : TrB M B c ch) : CB M B := h.2.2.2.1
theorem TrB.hR (h : TrB M B c ch) : RB B := h.2.2.2.2.1
theorem TrB.hW (h : TrB M B c ch) : WF B := h.2.2.2.2.2.1
theorem TrB.c0 (h : TrB M B c ch) : 0 ≤ c := h.2.2.2.2.2.2.1
theorem TrB.c6 (h : TrB M B c ch) : c < 6 := h.2.2.2.2.2.2.2
/-- behind under -/
def TrU (M B : Mem) (c q : Int) (ch : Nat → Int) (mo le : Int) : Prop := TrB M B c ch ∧ M 1 12 = B 8 q ∧ M 1 13 = (nst B q : Nat) ∧ M 1 14 = mo ∧ M 1 15 = le ∧ (∀ k : Nat, k < nly B c → M 16 k = hld B c k) ∧ (∀ k : Nat, k < nly B c → (M 1 11 ≤ k ↔ wet B c k)) ∧ (0 ≤ mo ∧ mo ≤ 3000) ∧ 0 ≤ le ∧ le ≤ 3000
theorem TrU.b (h : TrU M B c q ch mo le) : TrB M B c ch := h.1
theorem TrU.bea (h : TrU M B c q ch mo le) : M 1 12 = B 8 q := h.2.1
theorem TrU.ste (h : TrU M B c q ch mo le) : M 1 13 = (nst B q : Nat) := h.2.2.1
theorem TrU.mor (h : TrU M B c q ch mo le) : M 1 14 = mo := h.2.2.2.1
theorem TrU.les (h : TrU M B c q ch mo le) : M 1 15 = le := h.2.2.2.2.1
theorem TrU.hol (h : TrU M B c q ch mo le) : ∀ k : Nat, k < nly B c → M 16 k = hld B c k := h.2.2.2.2.2.1
theorem TrU.fwe (h : TrU M B c q ch mo le) : ∀ k : Nat, k < nly B c → (M 1 11 ≤ k ↔ wet B c k) := h.2.2.2.2.2.2.1
theorem TrU.mo0 (h : TrU M B c q ch mo le) : 0 ≤ mo ∧ mo ≤ 3000 := h.2.2.2.2.2.2.2.1
theorem TrU.le0 (h : TrU M B c q ch mo le) : 0 ≤ le ∧ le ≤ 3000 := h.2.2.2.2.2.2.2.2
/-- a layer's row of arriving strengths, and of what drains to it -/
def RowA (M B : Mem) (c q : Int) (ch : Nat → Int) (mo le : Int) (k : Nat) : Prop := ∀ s : Nat, (s : Int) < B 8 q → M 17 (k * 30 + s) = arr B c q (FF B c q ch mo le s) s k
def RowR (M B : Mem) (c q : Int) (ch : Nat → Int) (mo le : Int) (k : Nat) : Prop := ∀ s : Nat, s < nst B q → M 18 (k * 60 + s) = if k + 1 < nly B c then los B c mo (bt1 B c q ch le (FF B c q ch mo le s) s (k + 1)).1 (k + 1) / 2 else 0
def FrG (M N : Mem) (k : Nat) : Prop := (∀ h, h ≠ 14 → h ≠ 15 → N h = M h) ∧ ∀ j : Int, j ≠ k → N 14 j = M 14 j ∧ N 15 j = M 15 j
/-- what playing a layer may change -/
def FrW (M N : Mem) (k : Nat) : Prop := (∀ h, h ≠ 14 → h ≠ 15 → h ≠ 17 → h ≠ 18 → N h = M h) ∧ (∀ j : Int, j ≠ k → N 14 j = M 14 j ∧ N 15 j = M 15 j) ∧ (∀ i : Int, (k : Int) * 30 ≤ i → N 17 i = M 17 i) ∧ (∀ i : Int, (k : Int) * 60 ≤ i → N 18 i = M 18 i)
theorem FrW.rf {k : Nat} : FrW M M k := ⟨fun _ _ _ _ _ => rfl, fun _ _ => ⟨rfl, rfl⟩, fun _ _ => rfl, fun _ _ => rfl⟩
theorem FrW.g {k : Nat} (h : FrW M N k) (g : FrG N O k) : FrW M O k :=
  ⟨fun x a b e f => (g.1 x a b).trans (h.1 x a b e f), fun j hj => ⟨(g.2 j hj).1.trans (h.2.1 j hj).1, (g.2 j hj).2.trans (h.2.1 j hj).2⟩, fun i hi => by rw [g.1 _ (by decide) (by decide)]; exact h.2.2.1 i hi, fun i hi => by rw [g.1 _ (by decide) (by decide)]; exact h.2.2.2 i hi⟩
theorem FrW.a {k : Nat} {i z : Int} (h : FrW M N k) (hi : i < (k : Int) * 30) : FrW M (mset N 17 i z) k :=
  ⟨fun x a b e f => by rw [mset_ne e]; exact h.1 x a b e f, fun j hj => by rw [mset_ne (by decide), mset_ne (by decide)]; exact h.2.1 j hj, fun y hy => by rw [ms_n (by omega)]; exact h.2.2.1 y hy, fun y hy => by rw [mset_ne (by decide)]; exact h.2.2.2 y hy⟩
theorem FrW.r {k : Nat} {i z : Int} (h : FrW M N k) (hi : i < (k : Int) * 60) : FrW M (mset N 18 i z) k :=
  ⟨fun x a b e f => by rw [mset_ne f]; exact h.1 x a b e f, fun j hj => by rw [mset_ne (by decide), mset_ne (by decide)]; exact h.2.1 j hj, fun y hy => by rw [mset_ne (by decide)]; exact h.2.2.1 y hy, fun y hy => by rw [ms_n (by omega)]; exact h.2.2.2 y hy⟩
theorem FrG.p {k : Nat} {z : Int} : FrG M (mset M 14 k z) k := ⟨fun h a b => mset_ne a, fun j hj => ⟨ms_n hj, by rw [mset_ne (by decide)]⟩⟩
theorem gain_ok_c {k : Nat} {s p g more : Int} {Q : Mem → Prop} (hk : k < 6) (hp : M 14 k = p) (hg : M 15 k = g) (p0 : 0 ≤ p ∧ p ≤ 1000) (hb : 0 ≤ more ∧ more ≤ 10000000) (hs : 0 ≤ s ∧ s ≤ 59)
    (kk : ∀ N, N 14 k = (gain (p, g) s more).1 → N 15 k = (gain (p, g) s more).2 → FrG M N k → Q N) : w_Trial_gain M k s more Q := by
  unfold w_Trial_gain
  refine ⟨by omega, ?_⟩
  (intro g' eg' _ _; have eg' : g' = M 15 k := eg')
  rw [hg] at eg'
  subst eg'
  refine ⟨fun h => ⟨by omega, ?_⟩, fun h => ?_⟩
  · (intro a ea _ _; have ea : a = M 14 k := ea)
    rw [hp] at ea
    subst ea
    refine And.intro ⟨by omega, by omega⟩ ?_
    (intro N1 eN1; subst eN1)
    refine ⟨by omega, ?_⟩
    intro b eb _ _
    rw [ms_s] at eb
    refine ⟨fun h2 => ⟨by omega, ?_⟩, fun h2 => ?_⟩
    · (intro N2 eN2; subst eN2)
      refine And.intro ⟨by omega, by omega⟩ ?_
      (intro N3 eN3; subst eN3)
      have e : gain (a, g') s more = (1000, s) := by unfold gain; rw [if_pos h, if_neg (show ¬ a + more < 1000 by omega)]
      refine kk _ ?_ ?_ ⟨fun h h1 h2 => by rw [mset_ne h2, mset_ne h1, mset_ne h1], fun j hj => ⟨?_, ?_⟩⟩
      · rw [e, mset_ne (by decide), ms_s]
      · rw [e, ms_s]
      · rw [mset_ne (by decide), ms_n hj, ms_n hj]
      · rw [ms_n hj, mset_ne (by decide), mset_ne (by decide)]
    · have e : gain (a, g') s more = (a + more, -1) := by unfold gain; rw [if_pos h, if_pos (show a + more < 1000 by omega)]
      refine kk _ ?_ ?_ FrG.p
      · rw [e, ms_s]
      · rw [e, mset_ne (by decide)]; exact hg.trans h
  · have e : gain (p, g') s more = (p, g') := by unfold gain; rw [if_neg h]
    exact kk M (by rw [e]; exact hp) (by rw [e]; exact hg) ⟨fun _ _ _ => rfl, fun _ _ => ⟨rfl, rfl⟩⟩
theorem ruleOf_ok {k : Nat} {n : Int} {Q : Int → Prop} (H : TrB M B c ch) (hk : k < nly B c) (n0 : 0 ≤ n) (n5 : n < 5) (kk : Q (rlk B c k n)) : w_Trial_ruleOf M k n Q := by
  have hn := nly_i H.hR c
  have c0 := H.c0
  have c6 := H.c6
  unfold w_Trial_ruleOf
  (intro a ea _ _; have ea : a = M 1 9 := ea)
  rw [H.col] at ea
  subst ea
  refine ⟨by omega, ?_⟩
  (intro b eb _ _; have eb : b = M 22 (a * 6 + k) := eb)
  rw [c_kind H.hC] at eb
  refine ⟨by omega, ?_⟩
  (intro d ed _ _; have ed : d = M 30 (b * 5 + n) := ed)
  rw [c_rule H.hC, eb] at ed
  have ed : d = rlk B a k n := ed
  rw [ed]
  exact kk
theorem valueAt_ok {k : Nat} {Q : Int → Prop} (H : TrB M B c ch) (hk : k < nly B c) (kk : Q (B 6 ((c * 6 + k) * 3 + ch k))) : w_Trial_valueAt M k Q := by
  have hn := nly_i H.hR c
  have c0 := H.c0
  have c6 := H.c6
  have hc := H.cho k hk
  have hv := vals_rng H.hR H.hW c0 c6 hk
  unfold w_Trial_valueAt
  (intro a ea _ _; have ea : a = M 1 9 := ea)
  rw [H.col] at ea
  subst ea
  refine ⟨by omega, ?_⟩
  (intro b eb _ _; have eb : b = M 13 k := eb)
  rw [hc.1] at eb
  subst eb
  refine ⟨by omega, ?_⟩
  (intro d ed _ _; have ed : d = M 25 ((a * 6 + k) * 3 + ch k) := ed)
  rw [c_value H.hC] at ed
  rw [ed]
  exact kk
theorem TrB.fr (h : TrB M B c ch) (e1 : N 1 = M 1) (e2 : N 13 = M 13) (hC : CB N B) : TrB N B c ch :=
  ⟨by rw [e1]; exact h.col, by rw [e1]; exact h.lay, by rw [e2]; exact h.cho, hC, h.2.2.2.2⟩
theorem TrU.fr (h : TrU M B c q ch mo le) (e1 : N 1 = M 1) (e2 : N 13 = M 13) (e3 : N 16 = M 16) (hC : CB N B) : TrU N B c q ch mo le :=
  ⟨h.b.fr e1 e2 hC, by rw [e1]; exact h.bea, by rw [e1]; exact h.ste, by rw [e1]; exact h.mor, by rw [e1]; exact h.les, by rw [e3]; exact h.hol, by rw [e1]; exact h.fwe, h.2.2.2.2.2.2.2⟩
theorem FrW.ag {k : Nat} (h : FrW M N k) : Ag M N := by
  intro q hq
  have e : N q.1 = M q.1 := h.1 q.1 (by revert q; decide) (by revert q; decide) (by revert q; decide) (by revert q; decide)
  obtain ⟨q1, q2⟩ := q
  cases q2 with
  | none => exact e
  | some k => exact congrFun e k
theorem TrU.w {k : Nat} (h : TrU M B c q ch mo le) (f : FrW M N k) : TrU N B c q ch mo le :=
  h.fr (f.1 _ (by decide) (by decide) (by decide) (by decide)) (f.1 _ (by decide) (by decide) (by decide) (by decide)) (f.1 _ (by decide) (by decide) (by decide) (by decide)) (h.b.hC.ag f.ag)
theorem playWet_ok {k : Nat} {Q : Mem → Prop} (H : TrU M B c q ch mo le) (q0 : 0 ≤ q) (q6 : q < 6) (hk : k < nly B c) (hw : wet B c k) (ra : RowA M B c q ch mo le k) (rr : RowR M B c q ch mo le k) (hp : M 14 k = 0) (hg : M 15 k = -1)
    (kk : ∀ N, N 14 k = (fin B c q ch mo le k).1 → N 15 k = (fin B c q ch mo le k).2 → (∀ j : Nat, j + 1 = k → RowA N B c q ch mo le j ∧ RowR N B c q ch mo le j) → FrW M N k → Q N) : w_Trial_playWet M k Q := by
  obtain ⟨hn, hn6⟩ := nly_i H.b.hR c
  obtain ⟨hb, hb30⟩ := beats_i H.b.hR q
  obtain ⟨hst, hst30, hr24⟩ := nst_i H.b.hR H.b.hW q
  have hR := H.b.hR
  have hW := H.b.hW
  have hle := H.le0
  have hmo := H.mo0
  have hh := hld_rng hR c k (by omega)
  have hpass := rlk_pass hR hW c k
  unfold w_Trial_playWet
  refine ruleOf_ok H.b hk (by decide) (by decide) ?_
  refine ruleOf_ok H.b hk (by decide) (by decide) ?_
  have hr1 := rlk_rng hR c k 1
  (intro a ea _ _; have ea : a = M 1 14 := ea)
  rw [H.mor] at ea
  subst ea
  refine ⟨by omega, ?_⟩
  refine ruleOf_ok H.b hk (by decide) (by decide) ?_
  refine valueAt_ok H.b hk ?_
  have hvv := b_value hR ((c * 6 + k) * 3 + ch k)
  (intro b eb _ _; have eb : b = M 1 15 := eb)
  rw [H.les] at eb
  subst eb
  refine ⟨by omega, by omega, ?_⟩
  (intro d ed _ _; have ed : d = M 16 k := ed)
  rw [H.hol k hk] at ed
  subst ed
  unfold w_Trial_playWet_L0
  intro X hX
  have key : ∀ (e s : Nat) (N : Mem), s + e = nst B q → N 14 k = (FF B c q ch a b s k).1 → N 15 k = (FF B c q ch a b s k).2 → FrW M N k →
      (∀ j : Nat, j + 1 = k → (∀ t : Nat, t < s → (t : Int) < B 8 q → N 17 (j * 30 + t) = arr B c q (FF B c q ch a b t) t j) ∧ (∀ t : Nat, t < s → N 18 (j * 60 + t) = los B c a (bt1 B c q ch b (FF B c q ch a b t) t k).1 k / 2)) → X s N := by
    intro e
    induction e with
    | zero =>
      intro s N hs h1 h2 h3 h4
      rw [Nat.add_zero] at hs
      subst hs
      have HN := H.w h3
      apply hX
      unfold w_Trial_playWet_B0
      (intro t et _ _; have et : t = N 1 13 := et)
      rw [HN.ste] at et
      refine ⟨by omega, fun _ => kk N h1 h2 (fun j hj => ⟨fun t ht => (h4 j hj).1 t (by omega) ht, fun t ht => ?_⟩) h3, fun h => absurd h (by omega)⟩
      rw [if_pos (by omega), hj]
      exact (h4 j hj).2 t ht
    | succ e ih =>
      intro s N hs h1 h2 h3 h4
      have HN := H.w h3
      have hok := FF_ok hR hW c q ch hmo.1 hle.1 s k
      have hbok := bt1_ok hR hW c q ch hle.1 (FF B c q ch a b s) s k (by omega) hok
      have hlo := los_rng hR c hmo.1 ⟨hbok.1, hbok.2.1⟩ k
      have elo : los B c a (bt1 B c q ch b (FF B c q ch a b s) s k).1 k = (bt1 B c q ch b (FF B c q ch a b s) s k).1 * min 1000 (rlk B c k 1 + a) / 1000 := by unfold los; rw [if_pos hw]
      -- draining
      have J2 : ∀ O : Mem, O 14 k = (bt1 B c q ch b (FF B c q ch a b s) s k).1 → O 15 k = (bt1 B c q ch b (FF B c q ch a b s) s k).2 → FrW M O k →
          (∀ j : Nat, j + 1 = k → (∀ t : Nat, t < s + 1 → (t : Int) < B 8 q → O 17 (j * 30 + t) = arr B c q (FF B c q ch a b t) t j) ∧ (∀ t : Nat, t < s → O 18 (j * 60 + t) = los B c a (bt1 B c q ch b (FF B c q ch a b t) t k).1 k / 2)) →
          w_Trial_playWet_j2 Q X k (rlk B c k 2) (min 1000 (rlk B c k 1 + a)) (rlk B c k 0 * max 0 (B 6 ((c * 6 + k) * 3 + ch k) - b)) (10 * hld B c k) s O := by
        intro O o1 o2 o3 o4
        unfold w_Trial_playWet_j2
        refine ⟨by omega, ?_⟩
        (intro x ex _ _; have ex : x = O 14 k := ex)
        rw [o1] at ex
        subst ex
        refine ⟨hlo.1.imp id (fun h => by omega), by omega, ?_⟩
        (intro y ey _ _; have ey : y = O 14 k := ey)
        rw [o1] at ey
        subst ey
        rw [← elo]
        have hlo2 := hlo.2
        have hb1 := hbok.2.1
        refine ⟨by omega, ?_⟩
        (intro O1 eO1; subst eO1)
        refine ⟨by omega, ?_⟩
        have f1 : FrW M (mset O 14 k ((bt1 B c q ch b (FF B c q ch a b s) s k).1 - los B c a (bt1 B c q ch b (FF B c q ch a b s) s k).1 k)) k := o3.g FrG.p
        (intro z ez _ _; have ez : z = O 18 (k * 60 + s) := ez)
        rw [o3.2.2.2 _ (by omega), rr s (by omega)] at ez
        have hz : 0 ≤ z ∧ z ≤ 500 := by omega
        refine gain_ok_c (g := (bt1 B c q ch b (FF B c q ch a b s) s k).2) (by omega) ms_s o2 (by omega) (by omega) (by omega) (fun O2 g1 g2 g3 => ?_)
        have e2 : FF B c q ch a b (s + 1) k = gain ((bt1 B c q ch b (FF B c q ch a b s) s k).1 - los B c a (bt1 B c q ch b (FF B c q ch a b s) s k).1 k, (bt1 B c q ch b (FF B c q ch a b s) s k).2) s z := by
          rw [FF_drn]
          unfold drn
          rw [if_pos hw, ez]
        rw [← e2] at g1 g2
        have f2 := f1.g g3
        have o2a : O2 17 = O 17 := by rw [g3.1 _ (by decide) (by decide), mset_ne (by decide)]
        have o2r : O2 18 = O 18 := by rw [g3.1 _ (by decide) (by decide), mset_ne (by decide)]
        refine ⟨by omega, fun h => ?_, fun h => ⟨by omega, by omega, ?_⟩⟩
        · exact ih (s + 1) O2 (by omega) g1 g2 f2 (fun j hj => absurd hj (by omega))
        · (intro O3 eO3; subst eO3)
          refine ih (s + 1) _ (by omega) ?_ ?_ (f2.r (by omega)) (fun j hj => ⟨fun t ht ht2 => ?_, fun t ht => ?_⟩)
          · rw [mset_ne (by decide)]; exact g1
          · rw [mset_ne (by decide)]; exact g2
          · rw [mset_ne (by decide), o2a]; exact (o4 j hj).1 t ht ht2
          · by_cases et : t = s
            · rw [et, (show (j : Int) * 60 + s = ((k : Int) - 1) * 60 + s by omega), ms_s]
            · rw [ms_n (by omega), o2r]
              exact (o4 j hj).2 t (by omega)
      apply hX
      unfold w_Trial_playWet_B0
      (intro t et _ _; have et : t = N 1 13 := et)
      rw [HN.ste] at et
      refine ⟨by omega, fun h => absurd h (by omega), fun _ => ?_⟩
      (intro u eu _ _; have eu : u = N 1 12 := eu)
      rw [HN.bea] at eu
      refine ⟨by omega, fun h => ?_, fun h => ⟨by omega, ?_⟩⟩
      · have el : bt1 B c q ch b (FF B c q ch a b s) s = FF B c q ch a b s := bt1_late _ (by omega)
        exact J2 N (by rw [el]; exact h1) (by rw [el]; exact h2) h3 (fun j hj => ⟨fun t ht ht2 => (h4 j hj).1 t (by omega) ht2, (h4 j hj).2⟩)
      · have hsb : (s : Int) < B 8 q := by omega
        (intro x ex _ _; have ex : x = N 17 (k * 30 + s) := ex)
        rw [h3.2.2.1 _ (by omega), ra s hsb] at ex
        have har := arr_rng hR hW c q (FF B c q ch a b s) s k
        have hnum := grw_num hR hW c q (FF B c q ch a b s) s k (i := (c * 6 + k) * 3 + ch k) hle.1
        have hgr := grw_rng hR hW c q ch hle.1 (FF B c q ch a b s) s k (by omega)
        -- growth
        have J1 : ∀ O : Mem, O 14 k = (FF B c q ch a b s k).1 → O 15 k = (FF B c q ch a b s k).2 → FrW M O k →
            (∀ j : Nat, j + 1 = k → (∀ t : Nat, t < s + 1 → (t : Int) < B 8 q → O 17 (j * 30 + t) = arr B c q (FF B c q ch a b t) t j) ∧ (∀ t : Nat, t < s → O 18 (j * 60 + t) = los B c a (bt1 B c q ch b (FF B c q ch a b t) t k).1 k / 2)) →
            w_Trial_playWet_j1 Q X k (rlk B c k 2) (min 1000 (rlk B c k 1 + a)) (rlk B c k 0 * max 0 (B 6 ((c * 6 + k) * 3 + ch k) - b)) (10 * hld B c k) s x O := by
          intro O o1 o2 o3 o4
          unfold w_Trial_playWet_j1
          rw [ex]
          refine ⟨⟨by omega, by omega⟩, ?_⟩
          refine gain_ok_c (by omega) o1 o2 ⟨hok.1, hok.2.1⟩ ⟨hgr.1, by have := hgr.2; unfold grw at this; omega⟩ (by omega) (fun O2 g1 g2 g3 => ?_)
          have e2 : bt1 B c q ch b (FF B c q ch a b s) s k = gain ((FF B c q ch a b s k).1, (FF B c q ch a b s k).2) s (arr B c q (FF B c q ch a b s) s k * (rlk B c k 0 * max 0 (B 6 ((c * 6 + k) * 3 + ch k) - b)) / (10 * hld B c k)) := by
            unfold bt1
            rw [if_pos hsb, if_pos hw]
            rfl
          rw [← e2] at g1 g2
          refine J2 O2 g1 g2 (o3.g g3) (fun j hj => ?_)
          rw [g3.1 17 (by decide) (by decide), g3.1 18 (by decide) (by decide)]
          exact o4 j hj
        -- passing
        have J0 : ∀ z : Int, 0 ≤ z → z ≤ 100 → z = (if (FF B c q ch a b s k).2 = -1 then rlk B c k 2 else B 10 22) →
            w_Trial_playWet_j0 Q X k (rlk B c k 2) (min 1000 (rlk B c k 1 + a)) (rlk B c k 0 * max 0 (B 6 ((c * 6 + k) * 3 + ch k) - b)) (10 * hld B c k) s x z N := by
          intro z z0 z1 ez
          have hpc := pct (ex ▸ har) ⟨z0, z1⟩
          unfold w_Trial_playWet_j0
          refine ⟨by omega, fun h => ?_, fun h => ⟨by omega, by omega, ?_⟩⟩
          · exact J1 N h1 h2 h3 (fun j hj => absurd hj (by omega))
          · (intro O eO; subst eO)
            refine J1 _ ?_ ?_ (h3.a (by omega)) (fun j hj => ⟨fun t ht ht2 => ?_, fun t ht => ?_⟩)
            · rw [mset_ne (by decide)]; exact h1
            · rw [mset_ne (by decide)]; exact h2
            · by_cases et : t = s
              · subst et
                rw [(show (j : Int) * 30 + t = ((k : Int) - 1) * 30 + t by omega), ms_s, ex, ez]
                unfold arr
                rw [(show nly B c - 1 - j = (nly B c - 1 - k) + 1 by omega)]
                show _ = arD B c _ _ _ * (if (FF B c q ch a b t (nly B c - 1 - (nly B c - 1 - k))).2 = -1 then rlk B c (nly B c - 1 - (nly B c - 1 - k)) 2 else B 10 22) / 100
                rw [(show nly B c - 1 - (nly B c - 1 - k) = k by omega)]
              · rw [ms_n (by omega)]
                exact (h4 j hj).1 t (by omega) ht2
            · rw [mset_ne (by decide)]
              exact (h4 j hj).2 t ht
        refine ⟨by omega, ?_⟩
        (intro y ey _ _; have ey : y = N 15 k := ey)
        rw [h2] at ey
        refine ⟨fun h => ?_, fun h => J0 _ hpass.1 hpass.2 (by rw [if_pos (by omega)])⟩
        unfold w_Rules_flow
        (intro r er _ _; have er : r = N 30 22 := er)
        rw [c_rule HN.b.hC] at er
        have := hW.2.2.1
        exact J0 r (by omega) (by omega) (by rw [if_neg (by omega)]; exact er)
  exact key (nst B q) 0 M (by omega) hp hg FrW.rf (fun j hj => ⟨fun t ht => absurd ht (by omega), fun t ht => absurd ht (by omega)⟩)
end CRUN
