/-! ===== loss ===== -/
theorem sm_comm {f : Int → Int → Int} (m : Nat) : ∀ n : Nat, sm (fun a => sm (fun b => f a b) n) m = sm (fun b => sm (fun a => f a b) m) n
  | 0 => sm_all0 m (fun _ _ => rfl)
  | n + 1 => by
    have ih := sm_comm (f := f) m n
    have e : sm (fun a => sm (fun b => f a b) (n + 1)) m = sm (fun a => sm (fun b => f a b) n + f a n) m := rfl
    rw [e, sm_plus, ih]
    rfl
theorem sm_one {p v : Int} (p0 : 0 ≤ p) : ∀ n : Nat, sm (fun c => if p = c then v else 0) n = if p < n then v else 0
  | 0 => by rw [if_neg (by omega)]; rfl
  | n + 1 => by
    have ih := sm_one (v := v) p0 n
    show sm (fun c => if p = c then v else 0) n + (if p = (n : Int) then v else 0) = _
    rw [ih]
    by_cases e : p = n
    · rw [if_neg (by omega), if_pos e, if_pos (by omega), Int.zero_add]
    · rw [if_neg e, Int.add_zero]
      by_cases z : p < n
      · rw [if_pos z, if_pos (by omega)]
      · rw [if_neg z, if_neg (by omega)]
/-- the weight by which a house sinks in a shake -/
noncomputable abbrev lV (B : Mem) (h q : Int) : Int := wV B (B 24 h) (B 10 23) (xH B (B 24 h) q (B 25 h))
noncomputable def lT (B : Mem) (h q : Int) : Int := B 21 q * B 26 h * lV B h q / wW B (B 24 h)
abbrev nSh (B : Mem) : Nat := (B 20 0).toNat
noncomputable def lssC (B : Mem) : Int := sm (fun h => sm (fun q => lT B h q) (nSh B)) (nHo B)
noncomputable def lssM (B : Mem) : Int := sm (fun c => sm (fun q => sm (fun h => if B 24 h = c then lT B h q else 0) (nHo B)) (nSh B)) 6
theorem lss_eq {B : Mem} (hR : RB B) : lssM B = lssC B := by
  unfold lssM lssC
  have e1 : sm (fun c => sm (fun q => sm (fun h => if B 24 h = c then lT B h q else 0) (nHo B)) (nSh B)) 6 = sm (fun c => sm (fun h => sm (fun q => if B 24 h = c then lT B h q else 0) (nSh B)) (nHo B)) 6 :=
    sm_cg 6 (fun c _ => sm_comm (f := fun q h => if B 24 h = c then lT B h q else 0) (nSh B) (nHo B))
  rw [e1, sm_comm (f := fun c h => sm (fun q => if B 24 h = c then lT B h q else 0) (nSh B)) 6 (nHo B)]
  refine sm_cg (nHo B) (fun h _ => ?_)
  have hc := b_hcol hR h
  show sm (fun c => sm (fun q => if B 24 h = c then lT B h q else 0) (nSh B)) 6 = _
  have e2 : sm (fun c => sm (fun q => if B 24 h = c then lT B h q else 0) (nSh B)) 6 = sm (fun c => if B 24 h = c then sm (fun q => lT B h q) (nSh B) else 0) 6 := sm_cg 6 (fun c _ => by
    show sm (fun q => if B 24 h = (c : Int) then lT B h q else 0) (nSh B) = if B 24 h = (c : Int) then sm (fun q => lT B h q) (nSh B) else 0
    by_cases z : B 24 h = (c : Int)
    · simp only [if_pos z]
    · simp only [if_neg z]
      exact sm_all0 _ (fun _ _ => rfl))
  rw [e2, sm_one hc.1 6, if_pos (by omega)]
section LOSS
variable {M N B : Mem}
theorem nSh_i (hR : RB B) : ((nSh B : Nat) : Int) = B 20 0 ∧ nSh B ≤ 6 := by
  have := b_shakes hR 0
  unfold nSh
  omega
theorem lT_rng (hR : RB B) (hW : WF B) (h q : Int) : (0 ≤ B 21 q * B 26 h * lV B h q ∧ B 21 q * B 26 h * lV B h q ≤ 1000 * 9999 * (531441 * 729)) := by
  have hc := b_hcol hR h
  have f := w_facts (c := B 24 h) (mk := B 10 23) (x := xH B (B 24 h) q (B 25 h)) hR hW hc.1 (by omega)
  have h1 := mul_rng (b_share hR q) (b_hwor hR h)
  exact mul_rng h1 (C := 531441 * 729) ⟨f.1.1, Int.le_trans f.1.2 f.2.1.2⟩
theorem S_loss_L0_ok {Q : Int → Mem → Prop} (I : Inv M B) (nq : ¬ qrl B) (kk : ∀ N, Inv N B → Q (lssC B) N) : w_S_loss_L0 Q 0 0 M := by
  have hR := I.2.2.1
  have hW := I.2.2.2.1
  have hn := nHo_i hR
  have hs := nSh_i hR
  unfold w_S_loss_L0
  intro X hX
  have key : ∀ (d h : Nat) (N : Mem), h + d = nHo B → Inv N B → X (sm (fun h => sm (fun q => lT B h q) (nSh B)) h) h N := by
    intro d
    induction d with
    | zero =>
      intro h N hd IN
      rw [Nat.add_zero] at hd
      apply hX
      unfold w_S_loss_B0
      (intro a ea _ _; have ea : a = N 6 3 := ea)
      rw [c_houses IN.1] at ea
      exact ⟨by omega, fun _ => by rw [hd]; exact kk N IN, fun h => absurd h (by omega)⟩
    | succ d ih =>
      intro h N hd IN
      have hc := b_hcol hR h
      have yh : hasH B (B 24 h) := ⟨h, by omega, rfl⟩
      have hk : nK B (B 24 h) ≠ 0 := fun z => nq ⟨(B 24 h).toNat, by omega, by rw [(show (((B 24 h).toNat : Nat) : Int) = B 24 h by omega)]; exact ⟨yh, z⟩⟩
      apply hX
      unfold w_S_loss_B0
      (intro a ea _ _; have ea : a = N 6 3 := ea)
      rw [c_houses IN.1] at ea
      refine ⟨by omega, fun h => absurd h (by omega), fun _ => ?_⟩
      unfold w_S_loss_L1
      intro Y hY
      have key2 : ∀ (e q : Nat) (O : Mem), q + e = nSh B → Inv O B → Y (sm (fun h => sm (fun q => lT B h q) (nSh B)) h + sm (fun q => lT B h q) q) q O := by
        intro e
        induction e with
        | zero =>
          intro q O he o1
          rw [Nat.add_zero] at he
          apply hY
          unfold w_S_loss_B1
          (intro b eb _ _; have eb : b = O 3 3 := eb)
          rw [c_shakes o1.1] at eb
          refine ⟨by omega, fun _ => ?_, fun h => absurd h (by omega)⟩
          rw [he]
          exact ih (h + 1) O (by omega) o1
        | succ e ih2 =>
          intro q O he o1
          apply hY
          unfold w_S_loss_B1
          (intro b eb _ _; have eb : b = O 3 3 := eb)
          rw [c_shakes o1.1] at eb
          refine ⟨by omega, fun h => absurd h (by omega), fun _ => ?_⟩
          refine surveyHouse_ok o1 (by omega) (by omega) (by omega) (by omega) (fun P p1 p2 => ⟨by omega, ?_⟩)
          obtain ⟨v1, v2, v3, v4, _⟩ := p2
          have v3 : P 9 2 = wW B (B 24 h) := v3
          have v4 : P 9 3 = lV B h q := v4
          have hpos := (w_facts (c := B 24 h) (mk := 0) (x := fun _ => 0) hR hW hc.1 (by omega)).2.2.1 hk
          have hwr := (w_facts (c := B 24 h) (mk := 0) (x := fun _ => 0) hR hW hc.1 (by omega)).2.1
          have hr := lT_rng hR hW h q
          (intro s es _ _; have es : s = P 27 q := es)
          rw [c_share p1.1] at es
          refine ⟨by omega, ?_⟩
          (intro w ew _ _; have ew : w = P 40 h := ew)
          rw [c_hwor p1.1] at ew
          (intro z ez _ _; have ez : z = P 9 2 := ez)
          rw [v3] at ez
          refine ⟨fun y => absurd y (by omega), fun _ => ?_⟩
          (intro u eu _ _; have eu : u = P 9 3 := eu)
          rw [v4] at eu
          (intro t et _ _; have et : t = P 9 2 := et)
          rw [v3] at et
          rw [es, ew, eu, et]
          refine ⟨⟨by omega, by omega⟩, ?_⟩
          have := ih2 (q + 1) P (by omega) p1
          have e3 : sm (fun q => lT B h q) (q + 1) = sm (fun q => lT B h q) q + lT B h q := rfl
          rw [e3, ← Int.add_assoc] at this
          exact this
      have := key2 (nSh B) 0 N (by omega) IN
      have e0 : sm (fun q => lT B h q) 0 = 0 := rfl
      rw [e0, Int.add_zero] at this
      exact this
  exact key (nHo B) 0 M (by omega) I
/-- the model's sums behind n places -/
def GC (M B : Mem) (c q : Int) (n : Nat) : Prop := M 12 36 = sm (fP (kept B c) (wgP B c)) n ∧ ∀ h : Nat, h < nHo B → M 97 h = if B 24 h = c then sm (fP (fun p => kept B c p ∧ B 10 23 ≤ xH B c q (B 25 h) p) (wgP B c)) n else 0
theorem m_goColumn_ok {c q : Int} {Q : Mem → Prop} (I : Inv M B) (F : fnd M B) (hF : M 66 c = 1) (c0 : 0 ≤ c) (c6 : c < 6) (q0 : 0 ≤ q) (q6 : q < 6) (kk : ∀ N, Inv N B → fnd N B → GC N B c q (nCh B c) → Q N) : w_m_goColumn M c q Q := by
  have hR := I.2.2.1
  have hW := I.2.2.2.1
  have hma := many_all hR hW c0 c6
  have hnc := nCh_i hR hW c0 c6
  have hn := nHo_i hR
  unfold w_m_goColumn
  refine m_plain_ok (fun M0 p1 p2 p3 p4 => ?_)
  have f0 : FrM M M0 := ⟨fun h _ _ _ _ _ _ _ e => p3 h e, fun k a b _ => p4 k a b⟩
  have I0 := I.ag f0.ag
  refine m_begin_ok (fun M1 e1 e2 e3 e4 f => ?_)
  have I1 := I0.ag f.ag
  have i1 : M1 66 = M 66 := by rw [f.1 _ (by decide), p3 _ (by decide)]
  have m1 : M1 12 22 = 0 := by rw [f.2 _ (by decide) (by decide) (by decide) (by decide)]; exact p1
  have m2 : M1 12 23 = 0 := by rw [f.2 _ (by decide) (by decide) (by decide) (by decide)]; exact p2
  -- the places
  have places : ∀ N, Inv N B → N 66 = M 66 → N 12 22 = 0 → N 12 23 = 0 → GC N B c q 0 → w_m_goColumn_L1 Q c q 0 N := by
    intro N IN iN n1 n2 g
    unfold w_m_goColumn_L1
    intro X hX
    have key : ∀ (d n : Nat) (O : Mem), n + d = nCh B c → Inv O B → O 66 = M 66 → O 12 22 = 0 → O 12 23 = 0 → GC O B c q n → X n O := by
      intro d
      induction d with
      | zero =>
        intro n O hd o1 o2 o3 o4 o5
        rw [Nat.add_zero] at hd
        apply hX
        unfold w_m_goColumn_B1
        refine m_manyChoices_ok o1.2.1 hR c0 c6 ⟨by omega, by omega, fun _ => ?_, fun h => absurd h (by omega)⟩
        rw [hd] at o5
        exact kk O o1 (fun c hc hh => by rw [o2]; exact F c hc hh) o5
      | succ d ih =>
        intro n O hd o1 o2 o3 o4 o5
        have hcm := (o1.2.2.2.2.2.2 c c0 c6 (by rw [o2]; exact hF)).2 n (by omega) (by omega)
        have es : ∀ f : Int → Int, sm f (n + 1) = sm f n + f n := fun _ => rfl
        apply hX
        unfold w_m_goColumn_B1
        refine m_manyChoices_ok o1.2.1 hR c0 c6 ⟨by omega, by omega, fun h => absurd h (by omega), fun _ => ⟨by omega, ?_⟩⟩
        (intro v ev _ _; have ev : v = O 82 (729 * c + n) := ev)
        refine ⟨fun hv => ?_, fun hv => ?_⟩
        · have hnk : ¬ kept B c n := fun z => by have := hcm.mpr z; omega
          refine ih (n + 1) O (by omega) o1 o2 o3 o4 ⟨?_, fun h hh => ?_⟩
          · rw [es, fP_n hnk, Int.add_zero]; exact o5.1
          · rw [es, fP_n (P := fun p => kept B c p ∧ B 10 23 ≤ xH B c q (B 25 h) p) (fun z => hnk z.1), Int.add_zero]; exact o5.2 h hh
        · have hkp : kept B c n := hcm.mp (by omega)
          refine m_chRun_ok o1.2.1 hR hW c0 c6 q0 q6 (by omega) (by omega) o3 o4 (by decide) (by decide) (fun P r1 r2 r3 r4 r5 => ?_)
          have IP := o1.ag r5.ag
          have r2 : P 12 17 = wgP B c n := r2
          have hwr := wgP_rng hR c n
          have k2 := sm_bd (f := fP (kept B c) (wgP B c)) (b := 531441) n (fun i _ => fP_bd (by decide) (wgP_rng hR c i))
          (intro a ea _ _; have ea : a = P 12 36 := ea)
          rw [r5.2 _ (by decide) (by decide) (by decide), o5.1] at ea
          (intro w ew _ _; have ew : w = P 12 17 := ew)
          rw [r2] at ew
          rw [ea, ew]
          refine ⟨by omega, ?_⟩
          (intro P1 eP1; subst eP1)
          have I2 : Inv (mset P 12 36 (sm (fP (kept B c) (wgP B c)) n + wgP B c n)) B := IP.ag (Ag.rf.sF (by decide))
          unfold w_m_goColumn_L2
          intro Y hY
          have key2 : ∀ (e i : Nat) (T : Mem), i + e = nHo B → Inv T B → T 66 = M 66 → T 12 22 = 0 → T 12 23 = 0 → T 12 17 = wgP B c n → PM T (fin B c q (dig B c n) 0 0) (nly B c) → T 12 36 = sm (fP (kept B c) (wgP B c)) (n + 1) → (∀ h : Nat, h < i → T 97 h = if B 24 h = c then sm (fP (fun p => kept B c p ∧ B 10 23 ≤ xH B c q (B 25 h) p) (wgP B c)) (n + 1) else 0) → (∀ h : Nat, i ≤ h → h < nHo B → T 97 h = if B 24 h = c then sm (fP (fun p => kept B c p ∧ B 10 23 ≤ xH B c q (B 25 h) p) (wgP B c)) n else 0) → Y i T := by
            intro e
            induction e with
            | zero =>
              intro i T he t1 t2 t3 t4 t5 t6 t7 t8 t9
              apply hY
              unfold w_m_goColumn_B2
              (intro b eb _ _; have eb : b = T 12 39 := eb)
              rw [m_houses t1.2.1] at eb
              exact ⟨by omega, fun _ => ih (n + 1) T (by omega) t1 t2 t3 t4 ⟨t7, fun h hh => t8 h (by omega)⟩, fun h => absurd h (by omega)⟩
            | succ e ih2 =>
              intro i T he t1 t2 t3 t4 t5 t6 t7 t8 t9
              have hxr := xH_rng hR c q (B 25 i) n
              have k4 := sm_bd (f := fP (fun p => kept B c p ∧ B 10 23 ≤ xH B c q (B 25 i) p) (wgP B c)) (b := 531441) n (fun i _ => fP_bd (by decide) (wgP_rng hR c i))
              have t9i := t9 i (Nat.le_refl _) (by omega)
              have J : ∀ y : Int, (0 ≤ y ∧ y ≤ 531441) → (if B 24 i = c then sm (fP (fun p => kept B c p ∧ B 10 23 ≤ xH B c q (B 25 i) p) (wgP B c)) n else 0) + y = (if B 24 i = c then sm (fP (fun p => kept B c p ∧ B 10 23 ≤ xH B c q (B 25 i) p) (wgP B c)) (n + 1) else 0) → w_m_goColumn_j0 Q X Y c q n i i (if B 24 i = c then sm (fP (fun p => kept B c p ∧ B 10 23 ≤ xH B c q (B 25 i) p) (wgP B c)) n else 0) y T := by
                intro y hy ey
                unfold w_m_goColumn_j0
                refine ⟨⟨by omega, by split <;> omega⟩, ?_⟩
                (intro T1 eT1; subst eT1)
                refine ih2 (i + 1) _ (by omega) (t1.ag (Ag.rf.sA (by decide))) (by rw [mset_ne (by decide)]; exact t2) (by rw [mset_ne (by decide)]; exact t3) (by rw [mset_ne (by decide)]; exact t4) (by rw [mset_ne (by decide)]; exact t5) (t6.fr (mset_ne (by decide)) (mset_ne (by decide))) (by rw [mset_ne (by decide)]; exact t7) (fun h hh => ?_) (fun h hh hh2 => ?_)
                · by_cases z : h = i
                  · rw [z, ms_s]; exact ey
                  · rw [ms_n (by omega)]; exact t8 h (by omega)
                · rw [ms_n (by omega)]; exact t9 h (by omega) hh2
              apply hY
              unfold w_m_goColumn_B2
              (intro b eb _ _; have eb : b = T 12 39 := eb)
              rw [m_houses t1.2.1] at eb
              refine ⟨by omega, fun h => absurd h (by omega), fun _ => ⟨by omega, ?_⟩⟩
              (intro u eu _ _; have eu : u = T 97 i := eu)
              rw [t9i] at eu
              rw [eu]
              refine ⟨by omega, ?_⟩
              (intro x ex _ _; have ex : x = T 83 i := ex)
              rw [m_hcol t1.2.1] at ex
              refine ⟨by omega, fun h => J 0 (by decide) ?_, fun h => ?_⟩
              · rw [if_neg (by omega), if_neg (by omega)]; rfl
              · have hci : B 24 i = c := by omega
                refine m_sinkOf_ok t1.2.1 hR (by omega) (by omega) hci t6 ?_
                show ∀ a17 : Int, a17 = T 64 23 → 0 ≤ a17 → a17 ≤ 999 → _
                (intro mk emk _ _; have emk : mk = T 64 23 := emk)
                rw [m_rule t1.2.1] at emk
                rw [emk]
                refine ⟨by show R32 (xH B c q (B 25 i) n); omega, fun hlt => J 0 (by decide) ?_, fun hge => ?_⟩
                · have hlt : xH B c q (B 25 i) n < B 10 23 := hlt
                  rw [if_pos hci, if_pos hci, es, fP_n (P := fun p => kept B c p ∧ B 10 23 ≤ xH B c q (B 25 i) p) (fun z => by have := z.2; omega)]
                · have hge : ¬ xH B c q (B 25 i) n < B 10 23 := hge
                  (intro w2 ew2 _ _; have ew2 : w2 = T 12 17 := ew2)
                  rw [t5] at ew2
                  rw [ew2]
                  refine J _ hwr ?_
                  rw [if_pos hci, if_pos hci, es, fP_y (P := fun p => kept B c p ∧ B 10 23 ≤ xH B c q (B 25 i) p) ⟨hkp, by omega⟩]
          refine key2 (nHo B) 0 _ (by omega) I2 ?_ ?_ ?_ ?_ (r1.fr (mset_ne (by decide)) (mset_ne (by decide))) ?_ (fun h hh => absurd hh (by omega)) (fun h _ hh => ?_)
          · rw [mset_ne (by decide), r5.1 _ (by decide) (by decide) (by decide) (by decide) (by decide) (by decide) (by decide) (by decide)]; exact o2
          · rw [ms_n (by decide)]; exact r3
          · rw [ms_n (by decide)]; exact r4
          · rw [ms_n (by decide)]; exact r2
          · rw [ms_s, es, fP_y hkp]
          · rw [mset_ne (by decide), r5.1 _ (by decide) (by decide) (by decide) (by decide) (by decide) (by decide) (by decide) (by decide)]; exact o5.2 h hh
    exact key (nCh B c) 0 N (by omega) IN iN n1 n2 g
  unfold w_m_goColumn_L0
  intro X hX
  have key : ∀ (d i : Nat) (N : Mem), i + d = nHo B → Inv N B → N 66 = M 66 → N 12 22 = 0 → N 12 23 = 0 → N 12 36 = 0 → (∀ h : Nat, h < i → N 97 h = 0) → X i N := by
    intro d
    induction d with
    | zero =>
      intro i N hd n1 n2 n3 n4 n5 n6
      apply hX
      unfold w_m_goColumn_B0
      (intro a ea _ _; have ea : a = N 12 39 := ea)
      rw [m_houses n1.2.1] at ea
      refine ⟨by omega, fun _ => places N n1 n2 n3 n4 ⟨n5, fun h hh => ?_⟩, fun h => absurd h (by omega)⟩
      rw [n6 h (by omega)]
      split <;> rfl
    | succ d ih =>
      intro i N hd n1 n2 n3 n4 n5 n6
      apply hX
      unfold w_m_goColumn_B0
      (intro a ea _ _; have ea : a = N 12 39 := ea)
      rw [m_houses n1.2.1] at ea
      refine ⟨by omega, fun h => absurd h (by omega), fun _ => ⟨by omega, ?_⟩⟩
      (intro N1 eN1; subst eN1)
      refine ih (i + 1) _ (by omega) (n1.ag (Ag.rf.sA (by decide))) (by rw [mset_ne (by decide)]; exact n2) (by rw [mset_ne (by decide)]; exact n3) (by rw [mset_ne (by decide)]; exact n4) (by rw [mset_ne (by decide)]; exact n5) (fun h hh => ?_)
      by_cases z : h = i
      · rw [z, ms_s]
      · rw [ms_n (by omega)]; exact n6 h (by omega)
  exact key (nHo B) 0 M1 (by omega) I1 i1 m1 m2 e2 (fun h hh => absurd hh (by omega))
theorem m_loss_L0_ok {Q : Int → Mem → Prop} (I : Inv M B) (F : fnd M B) (nq : ¬ qrl B) (kk : ∀ N, Inv N B → Q (lssM B) N) : w_m_loss_L0 Q 0 0 M := by
  have hR := I.2.2.1
  have hW := I.2.2.2.1
  have hn := nHo_i hR
  have hs := nSh_i hR
  unfold w_m_loss_L0
  intro X hX
  have key : ∀ (d c : Nat) (N : Mem), c + d = 6 → Inv N B → fnd N B → X (sm (fun c => sm (fun q => sm (fun h => if B 24 h = c then lT B h q else 0) (nHo B)) (nSh B)) c) c N := by
    intro d
    induction d with
    | zero =>
      intro c N hd IN FN
      rw [Nat.add_zero] at hd
      subst hd
      apply hX
      unfold w_m_loss_B0
      exact ⟨by decide, fun _ => kk N IN, fun h => absurd (by decide) h⟩
    | succ d ih =>
      intro c N hd IN FN
      have c0 : (0 : Int) ≤ c := by omega
      have c6 : (c : Int) < 6 := by omega
      apply hX
      unfold w_m_loss_B0
      refine ⟨by omega, fun h => absurd h (by omega), fun _ => ?_⟩
      unfold w_m_loss_L1
      intro Y hY
      by_cases yh : hasH B c
      · have hk : nK B c ≠ 0 := fun z => nq ⟨c, by omega, yh, z⟩
        have hpos := (w_facts (c := c) (mk := 0) (x := fun _ => 0) hR hW c0 c6).2.2.1 hk
        have hwr := (w_facts (c := c) (mk := 0) (x := fun _ => 0) hR hW c0 c6).2.1
        have key2 : ∀ (e q : Nat) (O : Mem), q + e = nSh B → Inv O B → fnd O B → Y (sm (fun c => sm (fun q => sm (fun h => if B 24 h = c then lT B h q else 0) (nHo B)) (nSh B)) c + sm (fun q => sm (fun h => if B 24 h = (c : Int) then lT B h q else 0) (nHo B)) q) q O := by
          intro e
          induction e with
          | zero =>
            intro q O he o1 o2
            rw [Nat.add_zero] at he
            apply hY
            unfold w_m_loss_B1
            (intro b eb _ _; have eb : b = O 12 8 := eb)
            rw [m_shakes o1.2.1] at eb
            refine ⟨by omega, fun _ => ?_, fun h => absurd h (by omega)⟩
            rw [he]
            exact ih (c + 1) O (by omega) o1 o2
          | succ e ih2 =>
            intro q O he o1 o2
            apply hY
            unfold w_m_loss_B1
            (intro b eb _ _; have eb : b = O 12 8 := eb)
            rw [m_shakes o1.2.1] at eb
            refine ⟨by omega, fun h => absurd h (by omega), fun _ => ?_⟩
            refine m_hasHouse_ok o1.2.1 hR (by omega) (fun _ => ?_) (fun z => absurd yh z)
            (first | refine t1n ?_ | refine t1e ?_)
            refine m_goColumn_ok o1 o2 (o2 c (by omega) yh) c0 c6 (by omega) (by omega) (fun P p1 p2 p3 => ?_)
            have st := ih2 (q + 1) P (by omega) p1 p2
            have e3 : sm (fun q => sm (fun h => if B 24 h = (c : Int) then lT B h q else 0) (nHo B)) (q + 1) = sm (fun q => sm (fun h => if B 24 h = (c : Int) then lT B h q else 0) (nHo B)) q + sm (fun h => if B 24 h = (c : Int) then lT B h q else 0) (nHo B) := rfl
            rw [e3, ← Int.add_assoc] at st
            generalize (sm (fun c => sm (fun q => sm (fun h => if B 24 h = c then lT B h q else 0) (nHo B)) (nSh B)) c + sm (fun q => sm (fun h => if B 24 h = (c : Int) then lT B h q else 0) (nHo B)) q) = base at st ⊢
            unfold w_m_loss_L2
            intro Z hZ
            have key3 : ∀ (f i : Nat), i + f = nHo B → Z (base + sm (fun h => if B 24 h = (c : Int) then lT B h q else 0) i) i := by
              intro f
              induction f with
              | zero =>
                intro i hf
                rw [Nat.add_zero] at hf
                apply hZ
                unfold w_m_loss_B2
                (intro y ey _ _; have ey : y = P 12 39 := ey)
                rw [m_houses p1.2.1] at ey
                exact ⟨by omega, fun _ => by rw [hf]; exact st, fun h => absurd h (by omega)⟩
              | succ f ih3 =>
                intro i hf
                have s3 := ih3 (i + 1) (by omega)
                have e4 : sm (fun h => if B 24 h = (c : Int) then lT B h q else 0) (i + 1) = sm (fun h => if B 24 h = (c : Int) then lT B h q else 0) i + (if B 24 i = (c : Int) then lT B i q else 0) := rfl
                rw [e4, ← Int.add_assoc] at s3
                apply hZ
                unfold w_m_loss_B2
                (intro y ey _ _; have ey : y = P 12 39 := ey)
                rw [m_houses p1.2.1] at ey
                refine ⟨by omega, fun h => absurd h (by omega), fun _ => ⟨by omega, ?_⟩⟩
                (intro x ex _ _; have ex : x = P 83 i := ex)
                rw [m_hcol p1.2.1] at ex
                refine ⟨by omega, fun h => ?_, fun h => ⟨by omega, ?_⟩⟩
                · rw [if_neg (by omega)] at s3
                  exact s3
                · have hci : B 24 i = (c : Int) := by omega
                  have hr := lT_rng hR hW i q
                  rw [if_pos hci] at s3
                  unfold lT at s3
                  (intro s es _ _; have es : s = P 61 q := es)
                  rw [m_share p1.2.1] at es
                  refine ⟨by omega, ?_⟩
                  (intro w ew _ _; have ew : w = P 85 i := ew)
                  rw [m_hwor p1.2.1] at ew
                  refine ⟨by omega, ?_⟩
                  (intro u eu _ _; have eu : u = P 97 i := eu)
                  rw [p3.2 i (by omega), if_pos hci] at eu
                  have eu : u = lV B i q := by rw [eu]; unfold lV wV; rw [hci]
                  (intro t et _ _; have et : t = P 12 36 := et)
                  rw [p3.1] at et
                  have et : t = wW B (B 24 i) := by rw [et, hci]
                  rw [es, ew, eu, et]
                  rw [← hci] at hpos hwr
                  exact ⟨⟨by omega, by omega⟩, s3⟩
            have := key3 (nHo B) 0 (by omega)
            have e0 : sm (fun h => if B 24 h = (c : Int) then lT B h q else 0) 0 = 0 := rfl
            rw [e0, Int.add_zero] at this
            exact this
        have := key2 (nSh B) 0 N (by omega) IN FN
        have e0 : sm (fun q => sm (fun h => if B 24 h = (c : Int) then lT B h q else 0) (nHo B)) 0 = 0 := rfl
        rw [e0, Int.add_zero] at this
        exact this
      · have st := ih (c + 1) N (by omega) IN FN
        have e3 : sm (fun c => sm (fun q => sm (fun h => if B 24 h = c then lT B h q else 0) (nHo B)) (nSh B)) (c + 1) = sm (fun c => sm (fun q => sm (fun h => if B 24 h = c then lT B h q else 0) (nHo B)) (nSh B)) c + sm (fun q => sm (fun h => if B 24 h = (c : Int) then lT B h q else 0) (nHo B)) (nSh B) := rfl
        have e4 : sm (fun q => sm (fun h => if B 24 h = (c : Int) then lT B h q else 0) (nHo B)) (nSh B) = 0 := sm_all0 _ (fun q _ => sm_all0 _ (fun h hh => if_neg (fun z => yh ⟨h, by omega, z⟩)))
        rw [e3, e4, Int.add_zero] at st
        apply hY
        unfold w_m_loss_B1
        (intro b eb _ _; have eb : b = N 12 8 := eb)
        rw [m_shakes IN.2.1] at eb
        refine ⟨by omega, fun _ => st, fun _ => ?_⟩
        refine m_hasHouse_ok IN.2.1 hR (by omega) (fun z => absurd z yh) (fun _ => ?_)
        (first | refine t0n ?_ | refine t0e ?_)
        exact st
  exact key 6 0 M (by decide) I F
theorem both_loss {Q : Int → Int → Mem → Prop} (I : Inv M B) (k : ∀ (r : Int) (N B' : Mem), Inv N B' → Q r r N) : w_S_loss M (fun r M1 => w_m_loss M1 (fun r2 M2 => Q r r2 M2)) := by
  unfold w_S_loss
  refine housesQuarrel_ok I (fun hq N IN => ?_) (fun hq N IN _ => ?_)
  · (first | refine t1n ?_ | refine t1e ?_)
    unfold w_m_loss
    refine m_findAllKept_ok IN (fun _ O o1 => ?_) (fun z => absurd hq z)
    (first | refine t0n ?_ | refine t0e ?_)
    exact k _ _ _ o1
  · (first | refine t0n ?_ | refine t0e ?_)
    refine S_loss_L0_ok IN hq (fun O o1 => ?_)
    unfold w_m_loss
    refine m_findAllKept_ok o1 (fun z => absurd z hq) (fun _ P p1 p2 => ?_)
    (first | refine t1n ?_ | refine t1e ?_)
    refine m_loss_L0_ok p1 p2 hq (fun T t1 => ?_)
    rw [lss_eq I.2.2.1]
    exact k _ _ _ t1
end LOSS
