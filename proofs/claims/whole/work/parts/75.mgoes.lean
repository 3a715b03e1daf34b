/-! ===== the model goes through the kept choices ===== -/
/-- what telling and noting may change -/
def FrN (M N : Mem) : Prop := (∀ h, h ≠ 12 → N h = M h) ∧ ∀ k : Int, k ≠ 35 → k ≠ 36 → k ≠ 37 → k ≠ 38 → N 12 k = M 12 k
theorem FrN.rf {M : Mem} : FrN M M := ⟨fun _ _ => rfl, fun _ _ _ _ _ => rfl⟩
theorem FrN.trans {M N O : Mem} (h1 : FrN M N) (h2 : FrN N O) : FrN M O := ⟨fun h a => (h2.1 h a).trans (h1.1 h a), fun k a b c d => (h2.2 k a b c d).trans (h1.2 k a b c d)⟩
theorem FrN.ag {M N : Mem} (h : FrN M N) : Ag M N := by
  have t : ∀ q ∈ kTab, q.1 ≠ 12 ∨ (q.2 ≠ none ∧ q.2 ≠ some 35 ∧ q.2 ≠ some 36 ∧ q.2 ≠ some 37 ∧ q.2 ≠ some 38) := by decide
  intro q hq
  have t1 := t q hq
  obtain ⟨q1, q2⟩ := q
  by_cases e : q1 = 12
  · subst e
    have t1 := t1.resolve_left (fun z => z rfl)
    cases q2 with
    | none => exact absurd rfl t1.1
    | some k => exact h.2 k (fun z => t1.2.1 (by rw [z])) (fun z => t1.2.2.1 (by rw [z])) (fun z => t1.2.2.2.1 (by rw [z])) (fun z => t1.2.2.2.2 (by rw [z]))
  · cases q2 with
    | none => exact h.1 q1 e
    | some k => exact congrFun (h.1 q1 e) k
theorem m_begin_ok {M : Mem} {Q : Mem → Prop} (kk : ∀ N, N 12 35 = 0 → N 12 36 = 0 → N 12 37 = -1 → N 12 38 = -1 → FrN M N → Q N) : w_m_begin M Q := by
  unfold w_m_begin
  (intro N1 eN1; subst eN1)
  (intro N2 eN2; subst eN2)
  (intro N3 eN3; subst eN3)
  (intro N4 eN4; subst eN4)
  refine kk _ ?_ ?_ ?_ ?_ ⟨fun h e => by rw [mset_ne e, mset_ne e, mset_ne e, mset_ne e], fun k a b c d => by rw [ms_n d, ms_n c, ms_n b, ms_n a]⟩
  · rw [ms_n (by decide), ms_n (by decide), ms_n (by decide), ms_s]
  · rw [ms_n (by decide), ms_n (by decide), ms_s]
  · rw [ms_n (by decide), ms_s]
  · rw [ms_s]
theorem m_tell_ok {M : Mem} {b s a w : Int} {Q : Mem → Prop} (hb : b = 0 ∨ b = 1) (e1 : M 12 35 = s) (e2 : M 12 36 = a) (e3 : M 12 17 = w) (hs : 0 ≤ s ∧ s ≤ 531441 * 729) (ha : 0 ≤ a ∧ a ≤ 531441 * 729) (hw : 0 ≤ w ∧ w ≤ 531441)
    (kk : ∀ N, N 12 35 = (if b = 0 then s else s + w) → N 12 36 = a + w → N 12 37 = M 12 37 → N 12 38 = M 12 38 → FrN M N → Q N) : w_m_tell M b Q := by
  have J : ∀ z : Int, s + z = (if b = 0 then s else s + w) → 0 ≤ z ∧ z ≤ 531441 → w_m_tell_j0 Q s z M := by
    intro z ez hz
    unfold w_m_tell_j0
    refine ⟨by omega, ?_⟩
    (intro N1 eN1; subst eN1)
    intro x ex _ _
    rw [ms_n (by decide), e2] at ex
    intro y ey _ _
    rw [ms_n (by decide), e3] at ey
    subst ex
    subst ey
    refine ⟨by omega, ?_⟩
    (intro N2 eN2; subst eN2)
    refine kk _ ?_ ?_ ?_ ?_ ⟨fun h e => by rw [mset_ne e, mset_ne e], fun k a b _ _ => by rw [ms_n b, ms_n a]⟩
    · rw [ms_n (by decide), ms_s]; exact ez
    · rw [ms_s]
    · rw [ms_n (by decide), ms_n (by decide)]
    · rw [ms_n (by decide), ms_n (by decide)]
  unfold w_m_tell
  (intro x ex _ _; have ex : x = M 12 35 := ex)
  rw [e1] at ex
  subst ex
  refine ⟨by omega, fun h => J 0 (by rw [if_pos h, Int.add_zero]) (by decide), fun h => ?_⟩
  (intro y ey _ _; have ey : y = M 12 17 := ey)
  rw [e3] at ey
  subst ey
  exact J y (by rw [if_neg h]) hw
theorem m_note_ok {M : Mem} {v : Int} {Q : Mem → Prop} (hv : 0 ≤ v ∧ v ≤ 100000)
    (kk : ∀ N, N 12 37 = (if M 12 37 < 0 then v else min (M 12 37) v) → N 12 38 = max (M 12 38) v → N 12 35 = M 12 35 → N 12 36 = M 12 36 → FrN M N → Q N) : w_m_note M v Q := by
  have J : ∀ z : Int, z = (if M 12 37 < 0 then v else min (M 12 37) v) → R32 z → w_m_note_j0 Q v z M := by
    intro z ez hz
    unfold w_m_note_j0
    refine ⟨hz, ?_⟩
    (intro N1 eN1; subst eN1)
    have go : ∀ y : Int, y = max (M 12 38) v → R32 y → w_m_note_j1 Q y (mset M 12 37 z) := by
      intro y ey hy
      unfold w_m_note_j1
      refine ⟨hy, ?_⟩
      (intro N2 eN2; subst eN2)
      refine kk _ ?_ ?_ ?_ ?_ ⟨fun h e => by rw [mset_ne e, mset_ne e], fun k _ _ a b => by rw [ms_n b, ms_n a]⟩
      · rw [ms_n (by decide), ms_s]; exact ez
      · rw [ms_s]; exact ey
      · rw [ms_n (by decide), ms_n (by decide)]
      · rw [ms_n (by decide), ms_n (by decide)]
    intro x ex x0 x1
    rw [ms_n (by decide)] at ex
    refine ⟨by omega, fun h => ?_, fun h => go v (by omega) (by omega)⟩
    intro y ey y0 y1
    rw [ms_n (by decide)] at ey
    exact go y (by omega) (by omega)
  unfold w_m_note
  intro x ex x0 x1
  refine ⟨fun h => J v (by rw [← ex, if_pos h]) (by omega), fun h => ?_⟩
  intro y ey y0 y1
  refine ⟨by omega, fun h2 => ?_, fun h2 => J v (by rw [← ex, if_neg h]; omega) (by omega)⟩
  intro u eu u0 u1
  exact J u (by rw [← ex, if_neg h]; omega) (by omega)
/-- the least and the greatest of what was noted; -1 if nothing was -/
def nt (D : Int → Prop) (x : Int → Int) (l g : Int) : Prop := ((∀ p, ¬ D p) ∧ l = -1 ∧ g = -1) ∨ ((∃ p, D p) ∧ isMn D x l ∧ isMx D x g)
theorem nt.cg {D D' : Int → Prop} {x : Int → Int} {l g : Int} (h : nt D x l g) (e : ∀ p, D' p ↔ D p) : nt D' x l g := by
  rcases h with ⟨a, b⟩ | ⟨⟨p, hp⟩, b, c⟩
  · exact Or.inl ⟨fun p z => a p ((e p).mp z), b⟩
  · exact Or.inr ⟨⟨p, (e p).mpr hp⟩, b.cg e, c.cg e⟩
theorem nt.add {D D' : Int → Prop} {x : Int → Int} {l g n : Int} (h : nt D x l g) (e : ∀ p, D' p ↔ D p ∨ p = n) (h0 : ∀ p, D p → 0 ≤ x p) (hn : 0 ≤ x n) : nt D' x (if l < 0 then x n else min l (x n)) (max g (x n)) := by
  rcases h with ⟨a, b, c⟩ | ⟨⟨p, hp⟩, b, c⟩
  · have one : ∀ p, D' p ↔ p = n := fun p => (e p).trans ⟨fun y => y.elim (fun y => absurd y (a p)) id, Or.inr⟩
    rw [if_pos (by omega), (show max g (x n) = x n by omega)]
    exact Or.inr ⟨⟨n, (one n).mpr rfl⟩, isMn.one one, isMx.one one⟩
  · have l0 : 0 ≤ l := by
      obtain ⟨⟨p', h1, h2⟩, _⟩ := b
      have := h0 p' h1
      omega
    rw [if_neg (by omega)]
    exact Or.inr ⟨⟨p, (e p).mpr (Or.inl hp)⟩, b.add e, c.add e⟩
/-- the model's survey behind the first n places: T tells what was noted -/
def Mv (M : Mem) (P S T : Int → Prop) (x w : Int → Int) (n : Nat) : Prop := M 12 35 = sm (fP S w) n ∧ M 12 36 = sm (fP P w) n ∧ nt (fun p => (0 ≤ p ∧ p < n) ∧ T p) x (M 12 37) (M 12 38)
theorem Mv.start {M : Mem} {P S T : Int → Prop} {x w : Int → Int} (e1 : M 12 35 = 0) (e2 : M 12 36 = 0) (e3 : M 12 37 = -1) (e4 : M 12 38 = -1) : Mv M P S T x w 0 :=
  ⟨e1, e2, Or.inl ⟨fun p z => absurd z.1 (by omega), e3, e4⟩⟩
theorem Mv.fr {M N : Mem} {P S T : Int → Prop} {x w : Int → Int} {n : Nat} (h : Mv M P S T x w n) (f : FrM M N) : Mv N P S T x w n := by
  unfold Mv
  rw [f.2 _ (by decide) (by decide) (by decide), f.2 _ (by decide) (by decide) (by decide), f.2 _ (by decide) (by decide) (by decide), f.2 _ (by decide) (by decide) (by decide)]
  exact h
theorem below_not {T : Int → Prop} {n : Nat} (h : ¬ T n) (p : Int) : ((0 ≤ p ∧ p < (n + 1 : Nat)) ∧ T p) ↔ ((0 ≤ p ∧ p < n) ∧ T p) := by
  constructor
  · rintro ⟨h1, h2⟩
    refine ⟨?_, h2⟩
    have : p ≠ n := fun z => h (by rw [← z]; exact h2)
    omega
  · rintro ⟨h1, h2⟩; exact ⟨by omega, h2⟩
theorem below_add {T : Int → Prop} {n : Nat} (h : T n) (p : Int) : ((0 ≤ p ∧ p < (n + 1 : Nat)) ∧ T p) ↔ (((0 ≤ p ∧ p < n) ∧ T p) ∨ p = n) := by
  constructor
  · rintro ⟨h1, h2⟩
    by_cases e : p = n
    · exact Or.inr e
    · exact Or.inl ⟨by omega, h2⟩
  · rintro (⟨h1, h2⟩ | h1)
    · exact ⟨by omega, h2⟩
    · rw [h1]; exact ⟨by omega, h⟩
theorem Mv.skip {M : Mem} {P S T : Int → Prop} {x w : Int → Int} {n : Nat} (h : Mv M P S T x w n) (h1 : ¬ P n) (h2 : ¬ S n) (h3 : ¬ T n) : Mv M P S T x w (n + 1) := by
  obtain ⟨a, b, c⟩ := h
  refine ⟨?_, ?_, c.cg (below_not h3)⟩
  · unfold sm; rw [fP_n h2, Int.add_zero]; exact a
  · unfold sm; rw [fP_n h1, Int.add_zero]; exact b
theorem Mv.rng {M B : Mem} {c : Int} {P S T : Int → Prop} {x : Int → Int} {n : Nat} (hR : RB B) (h : Mv M P S T x (wgP B c) n) (hn : n ≤ 729) : (0 ≤ M 12 35 ∧ M 12 35 ≤ 531441 * 729) ∧ (0 ≤ M 12 36 ∧ M 12 36 ≤ 531441 * 729) := by
  rw [h.1, h.2.1]
  have k1 := sm_bd (f := fP S (wgP B c)) (b := 531441) n (fun i _ => fP_bd (by decide) (wgP_rng hR c i))
  have k2 := sm_bd (f := fP P (wgP B c)) (b := 531441) n (fun i _ => fP_bd (by decide) (wgP_rng hR c i))
  omega
/-- the model's places that are kept -/
theorem below_all {B : Mem} (hR : RB B) (hW : WF B) {c : Int} (c0 : 0 ≤ c) (c6 : c < 6) (T : Int → Prop) (p : Int) : allK B c T p ↔ ((0 ≤ p ∧ p < (nCh B c : Nat)) ∧ T p) := by
  have := many_all hR hW c0 c6
  unfold allK nCh
  constructor
  · rintro ⟨h1, h2⟩; exact ⟨by omega, h2⟩
  · rintro ⟨h1, h2⟩; exact ⟨by omega, h2⟩
/-- the model's finished survey -/
def MvF (M B : Mem) (c : Int) (S T : Int → Prop) (x : Int → Int) : Prop := M 12 35 = sm (fP S (wgP B c)) (nCh B c) ∧ M 12 36 = sm (fP (kept B c) (wgP B c)) (nCh B c) ∧ nt (allK B c T) x (M 12 37) (M 12 38)
theorem Mv.all {M B : Mem} {c : Int} {S T : Int → Prop} {x : Int → Int} (hR : RB B) (hW : WF B) (c0 : 0 ≤ c) (c6 : c < 6) (h : Mv M (kept B c) S T x (wgP B c) (nCh B c)) : MvF M B c S T x := ⟨h.1, h.2.1, h.2.2.cg (below_all hR hW c0 c6 T)⟩
section MGOES
variable {M B : Mem}
theorem m_goThrough_ok {c q : Int} {k : Nat} {Q : Int → Mem → Prop} (I : Inv M B) (c0 : 0 ≤ c) (c6 : c < 6) (q0 : 0 ≤ q) (q6 : q < 6) (hk : k < nly B c)
    (k0 : ∀ N, Inv N B → sm (fP (kept B c) on1) (nCh B c) = 0 → Q 0 N) (kk : ∀ N, Inv N B → sm (fP (kept B c) on1) (nCh B c) ≠ 0 → MvF N B c (fun p => kept B c p ∧ 0 ≤ xL B c q k p) (fun p => kept B c p ∧ 0 ≤ xL B c q k p) (xL B c q k) → Q 1 N) : w_m_goThrough M c q k Q := by
  have hR := I.2.2.1
  have hW := I.2.2.2.1
  have hma := many_all hR hW c0 c6
  have hnc := nCh_i hR hW c0 c6
  have hn := nly_i hR c
  have hcb := sm_bd (f := fP (kept B c) on1) (b := 1) (nCh B c) (fun i _ => fP_b1)
  unfold w_m_goThrough
  refine m_findKept_ok I c0 c6 (fun N n1 n2 n3 n4 n5 => ?_)
  rw [cntN_sm (P := kept B c)]
  refine ⟨by show R32 (sm (fP (kept B c) on1) (nCh B c)); omega, fun hz => ?_, fun hz => k0 N n1 hz⟩
  refine m_begin_ok (fun N1 e1 e2 e3 e4 f => ?_)
  have I1 := n1.ag f.ag
  unfold w_m_goThrough_L0
  intro X hX
  have key : ∀ (d n : Nat) (O : Mem), n + d = nCh B c → Inv O B → O 66 c = 1 → O 12 22 = 0 → O 12 23 = 0 → Mv O (kept B c) (fun p => kept B c p ∧ 0 ≤ xL B c q k p) (fun p => kept B c p ∧ 0 ≤ xL B c q k p) (xL B c q k) (wgP B c) n → X n O := by
    intro d
    induction d with
    | zero =>
      intro n O hd o1 o2 o3 o4 o5
      rw [Nat.add_zero] at hd
      apply hX
      unfold w_m_goThrough_B0
      refine m_manyChoices_ok o1.2.1 hR c0 c6 ⟨by omega, by omega, fun _ => ?_, fun h => absurd h (by omega)⟩
      rw [hd] at o5
      exact kk O o1 hz (o5.all hR hW c0 c6)
    | succ d ih =>
      intro n O hd o1 o2 o3 o4 o5
      have hcm := (o1.2.2.2.2.2.2 c c0 c6 o2).2 n (by omega) (by omega)
      have hxr := xL_rng hR hW c q k n
      apply hX
      unfold w_m_goThrough_B0
      refine m_manyChoices_ok o1.2.1 hR c0 c6 ⟨by omega, by omega, fun h => absurd h (by omega), fun _ => ⟨by omega, ?_⟩⟩
      (intro v ev _ _; have ev : v = O 82 (729 * c + n) := ev)
      refine ⟨fun hv => ?_, fun hv => ?_⟩
      · have hnk : ¬ kept B c n := fun z => by have := hcm.mpr z; omega
        exact ih (n + 1) O (by omega) o1 o2 o3 o4 (o5.skip hnk (fun z => hnk z.1) (fun z => hnk z.1))
      · have hkp : kept B c n := hcm.mp (by omega)
        refine m_chRun_ok o1.2.1 hR hW c0 c6 q0 q6 (by omega) (by omega) o3 o4 (by decide) (by decide) (fun P p1 p2 p3 p4 p5 => ⟨by omega, ?_⟩)
        have IP := o1.ag p5.ag
        have vP := o5.fr p5
        have rP := vP.rng hR (by omega)
        have hwr := wgP_rng hR c n
        have p2 : P 12 17 = wgP B c n := p2
        have gP : P 70 k = xL B c q k n := (p1 k hk).2
        have e1 : ∀ f : Int → Int, sm f (n + 1) = sm f n + f n := fun _ => rfl
        (intro g eg _ _; have eg : g = P 70 k := eg)
        rw [gP] at eg
        subst eg
        refine ⟨fun hg => ?_, fun hg => ?_⟩
        · have hns : ¬ (kept B c n ∧ 0 ≤ xL B c q k n) := fun z => by omega
          unfold w_m_goThrough_j0
          refine m_tell_ok (Or.inl rfl) vP.1 vP.2.1 p2 (by rw [← vP.1]; exact rP.1) (by rw [← vP.2.1]; exact rP.2) hwr (fun T t1 t2 t3 t4 t5 => ⟨by omega, ?_⟩)
          rw [if_pos rfl] at t1
          have gT : T 70 k = xL B c q k n := by rw [t5.1 _ (by decide)]; exact gP
          (intro y ey _ _; have ey : y = T 70 k := ey)
          rw [gT] at ey
          subst ey
          refine ⟨fun _ => ?_, fun z => absurd hg z⟩
          refine ih (n + 1) T (by omega) (IP.ag t5.ag) ?_ ?_ ?_ ⟨?_, ?_, ?_⟩
          · rw [t5.1 _ (by decide), p5.1 _ (by decide) (by decide) (by decide) (by decide) (by decide) (by decide) (by decide) (by decide)]; exact o2
          · rw [t5.2 _ (by decide) (by decide) (by decide) (by decide)]; exact p3
          · rw [t5.2 _ (by decide) (by decide) (by decide) (by decide)]; exact p4
          · rw [e1, fP_n (P := fun p => kept B c p ∧ 0 ≤ xL B c q k p) hns, Int.add_zero]; exact t1
          · rw [e1, fP_y hkp]; exact t2
          · rw [t3, t4]; exact vP.2.2.cg (below_not (T := fun p => kept B c p ∧ 0 ≤ xL B c q k p) hns)
        · have hys : kept B c n ∧ 0 ≤ xL B c q k n := ⟨hkp, by omega⟩
          unfold w_m_goThrough_j0
          refine m_tell_ok (Or.inr rfl) vP.1 vP.2.1 p2 (by rw [← vP.1]; exact rP.1) (by rw [← vP.2.1]; exact rP.2) hwr (fun T t1 t2 t3 t4 t5 => ⟨by omega, ?_⟩)
          rw [if_neg (by decide)] at t1
          have gT : T 70 k = xL B c q k n := by rw [t5.1 _ (by decide)]; exact gP
          (intro y ey _ _; have ey : y = T 70 k := ey)
          rw [gT] at ey
          subst ey
          refine ⟨fun z => absurd z hg, fun _ => ⟨by omega, ?_⟩⟩
          (intro u eu _ _; have eu : u = T 70 k := eu)
          rw [gT] at eu
          subst eu
          refine m_note_ok (by omega) (fun U u1 u2 u3 u4 u5 => ?_)
          have f5 := t5.trans u5
          refine ih (n + 1) U (by omega) (IP.ag f5.ag) ?_ ?_ ?_ ⟨?_, ?_, ?_⟩
          · rw [f5.1 _ (by decide), p5.1 _ (by decide) (by decide) (by decide) (by decide) (by decide) (by decide) (by decide) (by decide)]; exact o2
          · rw [f5.2 _ (by decide) (by decide) (by decide) (by decide)]; exact p3
          · rw [f5.2 _ (by decide) (by decide) (by decide) (by decide)]; exact p4
          · rw [e1, fP_y (P := fun p => kept B c p ∧ 0 ≤ xL B c q k p) hys, u3]; exact t1
          · rw [e1, fP_y hkp, u4]; exact t2
          · rw [u1, u2, t3, t4]; exact vP.2.2.add (below_add (T := fun p => kept B c p ∧ 0 ≤ xL B c q k p) hys) (fun p hp => hp.2.2) hys.2
  exact key (nCh B c) 0 N1 (by omega) I1 (by rw [f.1 _ (by decide)]; exact n2) (by rw [f.2 _ (by decide) (by decide) (by decide) (by decide)]; exact n3) (by rw [f.2 _ (by decide) (by decide) (by decide) (by decide)]; exact n4) (Mv.start e1 e2 e3 e4)
theorem m_goHouse_ok {h q : Int} {Q : Int → Mem → Prop} (I : Inv M B) (h0 : 0 ≤ h) (h8 : h < 8) (q0 : 0 ≤ q) (q6 : q < 6) {c : Int} (hc : B 24 h = c)
    (k0 : ∀ N, Inv N B → sm (fP (kept B c) on1) (nCh B c) = 0 → Q 0 N) (kk : ∀ N, Inv N B → sm (fP (kept B c) on1) (nCh B c) ≠ 0 → MvF N B c (fun p => kept B c p ∧ B 10 23 ≤ xH B c q (B 25 h) p) (kept B c) (xH B c q (B 25 h)) → Q 1 N) : w_m_goHouse M h q Q := by
  have hR := I.2.2.1
  have hW := I.2.2.2.1
  have hcr := b_hcol hR h
  have c0 : 0 ≤ c := by omega
  have c6 : c < 6 := by omega
  have hma := many_all hR hW c0 c6
  have hnc := nCh_i hR hW c0 c6
  have hn := nly_i hR c
  have hcb := sm_bd (f := fP (kept B c) on1) (b := 1) (nCh B c) (fun i _ => fP_b1)
  unfold w_m_goHouse
  refine ⟨⟨h0, h8⟩, ?_⟩
  (intro a ea _ _; have ea : a = M 83 h := ea)
  rw [m_hcol I.2.1, hc] at ea
  subst ea
  refine m_findKept_ok I c0 c6 (fun N n1 n2 n3 n4 n5 => ?_)
  rw [cntN_sm (P := kept B a)]
  refine ⟨by show R32 (sm (fP (kept B a) on1) (nCh B a)); omega, fun hz => ?_, fun hz => k0 N n1 hz⟩
  refine m_begin_ok (fun N1 e1 e2 e3 e4 f => ?_)
  have I1 := n1.ag f.ag
  unfold w_m_goHouse_L0
  intro X hX
  have key : ∀ (d n : Nat) (O : Mem), n + d = nCh B a → Inv O B → O 66 a = 1 → O 12 22 = 0 → O 12 23 = 0 → Mv O (kept B a) (fun p => kept B a p ∧ B 10 23 ≤ xH B a q (B 25 h) p) (kept B a) (xH B a q (B 25 h)) (wgP B a) n → X n O := by
    intro d
    induction d with
    | zero =>
      intro n O hd o1 o2 o3 o4 o5
      rw [Nat.add_zero] at hd
      apply hX
      unfold w_m_goHouse_B0
      refine m_manyChoices_ok o1.2.1 hR c0 c6 ⟨by omega, by omega, fun _ => ?_, fun h => absurd h (by omega)⟩
      rw [hd] at o5
      exact kk O o1 hz (o5.all hR hW c0 c6)
    | succ d ih =>
      intro n O hd o1 o2 o3 o4 o5
      have hcm := (o1.2.2.2.2.2.2 a c0 c6 o2).2 n (by omega) (by omega)
      have hxr := xH_rng hR a q (B 25 h) n
      apply hX
      unfold w_m_goHouse_B0
      refine m_manyChoices_ok o1.2.1 hR c0 c6 ⟨by omega, by omega, fun h => absurd h (by omega), fun _ => ⟨by omega, ?_⟩⟩
      (intro v ev _ _; have ev : v = O 82 (729 * a + n) := ev)
      refine ⟨fun hv => ?_, fun hv => ?_⟩
      · have hnk : ¬ kept B a n := fun z => by have := hcm.mpr z; omega
        exact ih (n + 1) O (by omega) o1 o2 o3 o4 (o5.skip hnk (fun z => hnk z.1) hnk)
      · have hkp : kept B a n := hcm.mp (by omega)
        refine m_chRun_ok o1.2.1 hR hW c0 c6 q0 q6 (by omega) (by omega) o3 o4 (by decide) (by decide) (fun P p1 p2 p3 p4 p5 => ?_)
        have IP := o1.ag p5.ag
        have vP := o5.fr p5
        have rP := vP.rng hR (by omega)
        have hwr := wgP_rng hR a n
        have p2 : P 12 17 = wgP B a n := p2
        have e1 : ∀ f : Int → Int, sm f (n + 1) = sm f n + f n := fun _ => rfl
        refine m_sinkOf_ok IP.2.1 hR h0 h8 hc p1 ?_
        show ∀ a18 : Int, a18 = P 64 23 → 0 ≤ a18 → a18 ≤ 999 → _
        (intro mk emk _ _; have emk : mk = P 64 23 := emk)
        rw [m_rule IP.2.1] at emk
        subst emk
        have nxt : ∀ b : Int, (b = 0 ∧ xH B a q (B 25 h) n < B 10 23 ∨ b = 1 ∧ ¬ xH B a q (B 25 h) n < B 10 23) → w_m_goHouse_j0 Q X h q a n b P := by
          intro b hb
          unfold w_m_goHouse_j0
          refine m_tell_ok (by omega) vP.1 vP.2.1 p2 (by rw [← vP.1]; exact rP.1) (by rw [← vP.2.1]; exact rP.2) hwr (fun T t1 t2 t3 t4 t5 => ?_)
          have gT : PM T (fin B a q (dig B a n) 0 0) (nly B a) := p1.fr (t5.1 _ (by decide)) (t5.1 _ (by decide))
          refine m_sinkOf_ok (IP.ag t5.ag).2.1 hR h0 h8 hc gT ?_
          refine m_note_ok (v := xH B a q (B 25 h) n) (by omega) (fun U u1 u2 u3 u4 u5 => ?_)
          have f5 := t5.trans u5
          refine ih (n + 1) U (by omega) (IP.ag f5.ag) ?_ ?_ ?_ ⟨?_, ?_, ?_⟩
          · rw [f5.1 _ (by decide), p5.1 _ (by decide) (by decide) (by decide) (by decide) (by decide) (by decide) (by decide) (by decide)]; exact o2
          · rw [f5.2 _ (by decide) (by decide) (by decide) (by decide)]; exact p3
          · rw [f5.2 _ (by decide) (by decide) (by decide) (by decide)]; exact p4
          · rw [e1, u3, t1]
            rcases hb with ⟨rfl, hb⟩ | ⟨rfl, hb⟩
            · rw [if_pos rfl, fP_n (P := fun p => kept B a p ∧ B 10 23 ≤ xH B a q (B 25 h) p) (fun z => by have := z.2; omega), Int.add_zero]
            · rw [if_neg (by decide), fP_y (P := fun p => kept B a p ∧ B 10 23 ≤ xH B a q (B 25 h) p) ⟨hkp, by omega⟩]
          · rw [e1, fP_y hkp, u4]; exact t2
          · rw [u1, u2, t3, t4]; exact vP.2.2.add (below_add (T := kept B a) hkp) (fun p _ => (xH_rng hR a q (B 25 h) p).1) hxr.1
        refine ⟨by show R32 (xH B a q (B 25 h) n); omega, fun e => nxt 0 (Or.inl ⟨rfl, e⟩), fun e => nxt 1 (Or.inr ⟨rfl, e⟩)⟩
  exact key (nCh B a) 0 N1 (by omega) I1 (by rw [f.1 _ (by decide)]; exact n2) (by rw [f.2 _ (by decide) (by decide) (by decide) (by decide)]; exact n3) (by rw [f.2 _ (by decide) (by decide) (by decide) (by decide)]; exact n4) (Mv.start e1 e2 e3 e4)
end MGOES
