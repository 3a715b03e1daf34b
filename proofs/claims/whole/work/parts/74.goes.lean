/-! ===== the class goes through the kept choices ===== -/
/-- a choice's weight, by its place -/
def wgP (B : Mem) (c p : Int) : Int := wgt B c (dig B c p) (nly B c)
theorem wgt_cg {B : Mem} {c : Int} {ch ch' : Nat → Int} : ∀ n : Nat, (∀ k, k < n → ch k = ch' k) → wgt B c ch n = wgt B c ch' n
  | 0, _ => rfl
  | n + 1, h => by
    unfold wgt
    rw [wgt_cg n (fun k hk => h k (by omega)), h n (by omega)]
theorem wgP_rng {B : Mem} (hR : RB B) (c p : Int) : 0 ≤ wgP B c p ∧ wgP B c p ≤ 531441 := by
  have h1 := wgt_rng hR c (dig B c p) (nly B c)
  have h2 := pow9 (nly B c) (by have := nly_i hR c; omega)
  unfold wgP
  omega
theorem wgt_pos {B : Mem} (hR : RB B) (hW : WF B) {c : Int} (c0 : 0 ≤ c) (c6 : c < 6) {ch : Nat → Int} (h : okD B c ch) : ∀ n : Nat, n ≤ nly B c → 1 ≤ wgt B c ch n
  | 0, _ => by unfold wgt; omega
  | n + 1, hn => by
    have h1 := wgt_pos hR hW c0 c6 h n (by omega)
    have h2 := h n (by omega)
    have h3 := nly_i hR c
    have h4 := hW.2.2.2.2.2.2.2.2.2.2.2.2.2.1 (c * 6 + n) (ch n) (by omega) (by omega) h2.1 h2.2
    have h5 := Int.mul_le_mul h1 h4 (by decide) (by omega)
    unfold wgt
    omega
theorem wgP_pos {B : Mem} (hR : RB B) (hW : WF B) {c : Int} (c0 : 0 ≤ c) (c6 : c < 6) (p : Int) : 1 ≤ wgP B c p :=
  wgt_pos hR hW c0 c6 (fun k hk => ⟨(dig_rng hR hW c0 c6 hk).1, (dig_rng hR hW c0 c6 hk).2.1⟩) _ (Nat.le_refl _)
theorem fin_cg {B : Mem} {c q mo le : Int} {ch ch' : Nat → Int} (h : ∀ k, k < nly B c → ch k = ch' k) {k : Nat} (hk : k < nly B c) : fin B c q ch mo le k = fin B c q ch' mo le k := FF_cg _ _ hk (fun j _ hj => h j hj)
theorem snk_cg {B : Mem} {c w : Int} {P P' : Nat → Int × Int} : ∀ n : Nat, (∀ k, k < n → P k = P' k) → snk B c P w n = snk B c P' w n
  | 0, _ => rfl
  | n + 1, h => by
    unfold snk prt
    rw [snk_cg n (fun k hk => h k (by omega)), h n (by omega)]
/-- the step in which layer k lets go, by a choice's place; a sink by it -/
def xL (B : Mem) (c q : Int) (k : Nat) (p : Int) : Int := (fin B c q (dig B c p) 0 0 k).2
def xH (B : Mem) (c q w : Int) (p : Int) : Int := snk B c (fin B c q (dig B c p) 0 0) w (nly B c)
theorem xL_rng {B : Mem} (hR : RB B) (hW : WF B) (c q : Int) (k : Nat) (p : Int) : -1 ≤ xL B c q k p ∧ xL B c q k p ≤ 59 := by
  have h := FF_ok hR hW c q (dig B c p) (mo := 0) (le := 0) (by decide) (by decide) (nst B q) k
  have h2 := nst_i hR hW q
  have h3 := beats_i hR q
  obtain ⟨_, _, _, h4, h5⟩ := h
  unfold xL fin
  omega
theorem xH_rng {B : Mem} (hR : RB B) (c q w p : Int) : 0 ≤ xH B c q w p ∧ xH B c q w p ≤ 3600 := by
  have := snk_rng (c := c) (P := fin B c q (dig B c p) 0 0) hR w (nly B c)
  have := nly_i hR c
  unfold xH
  omega
/-- all places that are kept -/
def allK (B : Mem) (c : Int) (P : Int → Prop) (p : Int) : Prop := (0 ≤ p ∧ p < many B c (nly B c)) ∧ P p
theorem tld_all {B : Mem} (hR : RB B) (hW : WF B) {c : Int} (c0 : 0 ≤ c) (c6 : c < 6) (P : Int → Prop) (p : Int) : tld (plI B c) P (many B c (nly B c)).toNat p ↔ allK B c P p := by
  constructor
  · rintro ⟨h1, m, h2, h3⟩
    have := plI_rng hR hW c0 c6 (m : Int)
    rw [h3] at this
    exact ⟨this, h1⟩
  · rintro ⟨⟨h1, h2⟩, h3⟩
    exact ⟨h3, plI_all hR hW c0 c6 h1 h2⟩
abbrev nCh (B : Mem) (c : Int) : Nat := (many B c (nly B c)).toNat
theorem nCh_i {B : Mem} (hR : RB B) (hW : WF B) {c : Int} (c0 : 0 ≤ c) (c6 : c < 6) : ((nCh B c : Nat) : Int) = many B c (nly B c) := by
  have := many_all hR hW c0 c6
  unfold nCh
  omega
/-- a finished survey -/
def SvF (M B : Mem) (c mk : Int) (x : Int → Int) : Prop :=
  M 9 0 = sm (fP (kept B c) on1) (nCh B c) ∧ M 9 1 = sm (fP (fun p => kept B c p ∧ mk ≤ x p) on1) (nCh B c) ∧ M 9 2 = sm (fP (kept B c) (wgP B c)) (nCh B c) ∧ M 9 3 = sm (fP (fun p => kept B c p ∧ mk ≤ x p) (wgP B c)) (nCh B c) ∧
    ((∃ p, allK B c (kept B c) p) → isMn (allK B c (kept B c)) x (M 9 4) ∧ isMx (allK B c (kept B c)) x (M 9 5)) ∧ ((∃ p, allK B c (fun p => kept B c p ∧ mk ≤ x p) p) → isMn (allK B c (fun p => kept B c p ∧ mk ≤ x p)) x (M 9 6))
theorem SvN.all {M B : Mem} {c mk : Int} {x : Int → Int} (hR : RB B) (hW : WF B) (c0 : 0 ≤ c) (c6 : c < 6) (h : SvN M mk (kept B c) x (wgP B c) (plI B c) (nCh B c)) : SvF M B c mk x := by
  obtain ⟨lo, hi, ls, ⟨_, h1, h2, h3, h4, h5, h6⟩, h7, h8⟩ := h
  have e1 := tld_some (pl := plI B c) (P := kept B c) (n := nCh B c)
  have e2 := tld_some (pl := plI B c) (P := fun p => kept B c p ∧ mk ≤ x p) (n := nCh B c)
  refine ⟨h1.trans (sm_plI hR hW c0 c6 _), h2.trans (sm_plI hR hW c0 c6 _), h3.trans (sm_plI hR hW c0 c6 _), h4.trans (sm_plI hR hW c0 c6 _), fun ⟨p, hp⟩ => ?_, fun ⟨p, hp⟩ => ?_⟩
  · have ex : ∃ p, tld (plI B c) (kept B c) (nCh B c) p := ⟨p, (tld_all hR hW c0 c6 _ p).mpr hp⟩
    have a := h5 (e1.mpr ex)
    rw [a.1, a.2]
    have b := h7 ex
    exact ⟨b.1.cg (fun p => (tld_all hR hW c0 c6 _ p).symm), b.2.cg (fun p => (tld_all hR hW c0 c6 _ p).symm)⟩
  · have ex : ∃ p, tld (plI B c) (fun p => kept B c p ∧ mk ≤ x p) (nCh B c) p := ⟨p, (tld_all hR hW c0 c6 _ p).mpr hp⟩
    rw [h6 (e2.mpr ex)]
    exact (h8 ex).cg (fun p => (tld_all hR hW c0 c6 _ p).symm)
theorem svAg {M N : Mem} (h : ∀ h, h ≠ 9 → N h = M h) : Ag M N := by
  intro q hq
  have e : N q.1 = M q.1 := h q.1 (by revert q; decide)
  obtain ⟨q1, q2⟩ := q
  cases q2 with
  | none => exact e
  | some k => exact congrFun e k
section GOES
variable {M N B : Mem}
/-- behind the survey's taking a number the trial stands as it stood -/
theorem TrU.sv {c q mo le : Int} {ch : Nat → Int} (h : TrU M B c q ch mo le) (f : ∀ h, h ≠ 9 → N h = M h) : TrU N B c q ch mo le :=
  h.fr (f _ (by decide)) (f _ (by decide)) (f _ (by decide)) (h.b.hC.ag (svAg f))
theorem TrS.sv {c q mo le : Int} {ch : Nat → Int} (h : TrS M B c q ch mo le) (f : ∀ h, h ≠ 9 → N h = M h) : TrS N B c q ch mo le :=
  h.cg (by rw [f _ (by decide)]; exact Int.le_refl _) (by rw [f _ (by decide)]; exact h.1.2) (fun _ _ _ => rfl) (f _ (by decide)) (f _ (by decide)) (f _ (by decide)) (f _ (by decide))
theorem surveyLayer_ok {c k : Nat} {q : Int} {Q : Mem → Prop} (I : Inv M B) (hc6 : c < 6) (q0 : 0 ≤ q) (q6 : q < 6) (hk : k < nly B c) (kk : ∀ N, Inv N B → SvF N B c 0 (xL B c q k) → Q N) : w_S_surveyLayer M c q k Q := by
  have hR := I.2.2.1
  have hW := I.2.2.2.1
  have c0 : (0 : Int) ≤ c := by omega
  have c6 : (c : Int) < 6 := by omega
  have hma := many_all (c := c) hR hW c0 c6
  have hnc := nCh_i (c := c) hR hW c0 c6
  have hn := nly_i hR c
  unfold w_S_surveyLayer
  refine look_ok I hc6 (fun M1 I1 hl1 _ => ?_)
  refine Survey_begin_ok (by decide) (fun M2 v2 f2 => ?_)
  have I2 := I1.ag (svAg f2)
  have hl2 : M2 5 9 / 2 ^ c % 2 = 1 := by rw [f2 _ (by decide)]; exact hl1
  refine begin_ok I2.1 hR hW c0 c6 (fun M3 b1 b2 b3 => ?_)
  rw [← chI_zero B c] at b1
  refine under_ok b1 q0 q6 (by decide) (by decide) (fun M4 u1 u2 u3 => ?_)
  have t4 := b2.trans u3
  unfold w_S_surveyLayer_L0
  intro X hX
  have key : ∀ (d n : Nat) (N : Mem), n + d = nCh B c → Inv N B → N 5 9 / 2 ^ c % 2 = 1 → TrU N B c q (chI B c n) 0 0 → TrS N B c q (chI B c n) 0 0 → SvN N 0 (kept B c) (xL B c q k) (wgP B c) (plI B c) n → X n N := by
    intro d
    induction d with
    | zero =>
      intro n N hd IN hlN h1 h2 h3
      rw [Nat.add_zero] at hd
      apply hX
      unfold w_S_surveyLayer_B0
      refine ⟨by omega, ?_⟩
      (intro a ea _ _; have ea : a = N 36 c := ea)
      rw [(IN.2.2.2.2.2.1.at hc6 hlN).1] at ea
      refine ⟨by omega, fun _ => ?_, fun h => absurd h (by omega)⟩
      rw [hd] at h3
      exact kk N IN (h3.all hR hW c0 c6)
    | succ d ih =>
      intro n N hd IN hlN h1 h2 h3
      have hpl := plI_rng hR hW c0 c6 (n : Int)
      have hdig : ∀ k, k < nly B c → chI B c n k = dig B c (plI B c n) k := fun k hk => (dig_plc hR hW c0 c6 (chI_ok hR hW c0 c6 n) hk).symm
      have nxt : ∀ N, Inv N B → N 5 9 / 2 ^ c % 2 = 1 → TrU N B c q (chI B c n) 0 0 → TrS N B c q (chI B c n) 0 0 → SvN N 0 (kept B c) (xL B c q k) (wgP B c) (plI B c) (n + 1) → w_S_surveyLayer_j0 Q X c k n N := by
        intro N IN hlN h1 h2 h3
        unfold w_S_surveyLayer_j0
        refine turn_ok h1 h2 (fun N3 k1 k2 k3 => ?_)
        exact ih (n + 1) N3 (by omega) (IN.ag k3.ag) (by rw [k3 _ (by decide) (by decide) (by decide) (by decide) (by decide) (by decide) (by decide)]; exact hlN) k1 k2 (h3.fr (k3 _ (by decide) (by decide) (by decide) (by decide) (by decide) (by decide) (by decide)))
      apply hX
      unfold w_S_surveyLayer_B0
      refine ⟨by omega, ?_⟩
      (intro a ea _ _; have ea : a = N 36 c := ea)
      rw [(IN.2.2.2.2.2.1.at hc6 hlN).1] at ea
      refine ⟨by omega, fun h => absurd h (by omega), fun _ => ?_⟩
      refine place_ok h1.b ?_
      refine keep_ok (p := plI B c n) IN hc6 hlN hpl.1 hpl.2 (fun hk2 => ?_) (fun hk2 => ?_)
      · (first | refine t1n ?_ | refine t1e ?_)
        refine play_ok h1 h2 q0 q6 (fun N1 p1 p2 p3 p4 => ⟨by omega, ?_⟩)
        have I1 := IN.ag p4.ag
        (intro g eg _ _; have eg : g = N1 15 k := eg)
        rw [(p3 k hk).2, fin_cg hdig hk] at eg
        refine weightNow_ok p1.b ?_
        refine SvN_add_ok (h3.fr (p4 _ (by decide) (by decide) (by decide) (by decide) (by decide) (by decide) (by decide))) hk2 (by omega) eg (wgt_cg _ hdig) (by have := xL_rng hR hW c q k (plI B c n); omega) (fun i _ => wgP_rng hR c _) (fun N2 s1 s2 => ?_)
        refine nxt N2 (I1.ag (svAg s2)) ?_ (p1.sv s2) (p2.sv s2) s1
        rw [s2 _ (by decide), p4 _ (by decide) (by decide) (by decide) (by decide) (by decide) (by decide) (by decide)]
        exact hlN
      · (first | refine t0n ?_ | refine t0e ?_)
        exact nxt N IN hlN h1 h2 (h3.skip hk2)
  exact key (nCh B c) 0 M4 (by omega) (I2.ag t4.ag) (by rw [t4 _ (by decide) (by decide) (by decide) (by decide) (by decide) (by decide) (by decide)]; exact hl2) u1 u2 (SvN.start (v2.fr (t4 _ (by decide) (by decide) (by decide) (by decide) (by decide) (by decide) (by decide))))
theorem surveyHouse_ok {h q : Int} {Q : Mem → Prop} (I : Inv M B) (h0 : 0 ≤ h) (h8 : h < 8) (q0 : 0 ≤ q) (q6 : q < 6) (kk : ∀ N, Inv N B → SvF N B (B 24 h) (B 10 23) (xH B (B 24 h) q (B 25 h)) → Q N) : w_S_surveyHouse M h q Q := by
  have hR := I.2.2.1
  have hW := I.2.2.2.1
  have hcr := b_hcol hR h
  have hwr := b_hwid hR h
  have hmk := hW.2.2.2.2.2.2.1
  have hmk2 := hW.2.2.2.2.2.2.2.1
  unfold w_S_surveyHouse
  refine ⟨⟨h0, h8⟩, ?_⟩
  (intro a ea _ _; have ea : a = M 38 h := ea)
  rw [c_hcol I.1] at ea
  obtain ⟨c, hc⟩ : ∃ n : Nat, B 24 h = n := ⟨(B 24 h).toNat, by omega⟩
  rw [hc] at kk ea hcr
  subst ea
  have hc6 : c < 6 := by omega
  have c0 : (0 : Int) ≤ c := by omega
  have c6 : (c : Int) < 6 := by omega
  have hma := many_all (c := c) hR hW c0 c6
  have hnc := nCh_i (c := c) hR hW c0 c6
  have hn := nly_i hR c
  refine look_ok I hc6 (fun M1 I1 hl1 _ => ?_)
  unfold w_Rules_mark
  (intro mk emk _ _; have emk : mk = M1 30 23 := emk)
  rw [c_rule I1.1] at emk
  subst emk
  refine Survey_begin_ok (by omega) (fun M2 v2 f2 => ?_)
  have I2 := I1.ag (svAg f2)
  have hl2 : M2 5 9 / 2 ^ c % 2 = 1 := by rw [f2 _ (by decide)]; exact hl1
  refine begin_ok I2.1 hR hW c0 c6 (fun M3 b1 b2 b3 => ?_)
  rw [← chI_zero B c] at b1
  refine under_ok b1 q0 q6 (by decide) (by decide) (fun M4 u1 u2 u3 => ?_)
  have t4 := b2.trans u3
  unfold w_S_surveyHouse_L0
  intro X hX
  have key : ∀ (d n : Nat) (N : Mem), n + d = nCh B c → Inv N B → N 5 9 / 2 ^ c % 2 = 1 → TrU N B c q (chI B c n) 0 0 → TrS N B c q (chI B c n) 0 0 → SvN N (B 10 23) (kept B c) (xH B c q (B 25 h)) (wgP B c) (plI B c) n → X n N := by
    intro d
    induction d with
    | zero =>
      intro n N hd IN hlN h1 h2 h3
      rw [Nat.add_zero] at hd
      apply hX
      unfold w_S_surveyHouse_B0
      refine ⟨by omega, ?_⟩
      (intro a ea _ _; have ea : a = N 36 c := ea)
      rw [(IN.2.2.2.2.2.1.at hc6 hlN).1] at ea
      refine ⟨by omega, fun _ => ?_, fun h => absurd h (by omega)⟩
      rw [hd] at h3
      exact kk N IN (h3.all hR hW c0 c6)
    | succ d ih =>
      intro n N hd IN hlN h1 h2 h3
      have hpl := plI_rng hR hW c0 c6 (n : Int)
      have hdig : ∀ k, k < nly B c → chI B c n k = dig B c (plI B c n) k := fun k hk => (dig_plc hR hW c0 c6 (chI_ok hR hW c0 c6 n) hk).symm
      have nxt : ∀ N, Inv N B → N 5 9 / 2 ^ c % 2 = 1 → TrU N B c q (chI B c n) 0 0 → TrS N B c q (chI B c n) 0 0 → SvN N (B 10 23) (kept B c) (xH B c q (B 25 h)) (wgP B c) (plI B c) (n + 1) → w_S_surveyHouse_j0 Q X h c n N := by
        intro N IN hlN h1 h2 h3
        unfold w_S_surveyHouse_j0
        refine turn_ok h1 h2 (fun N3 k1 k2 k3 => ?_)
        exact ih (n + 1) N3 (by omega) (IN.ag k3.ag) (by rw [k3 _ (by decide) (by decide) (by decide) (by decide) (by decide) (by decide) (by decide)]; exact hlN) k1 k2 (h3.fr (k3 _ (by decide) (by decide) (by decide) (by decide) (by decide) (by decide) (by decide)))
      apply hX
      unfold w_S_surveyHouse_B0
      refine ⟨by omega, ?_⟩
      (intro a ea _ _; have ea : a = N 36 c := ea)
      rw [(IN.2.2.2.2.2.1.at hc6 hlN).1] at ea
      refine ⟨by omega, fun h => absurd h (by omega), fun _ => ?_⟩
      refine place_ok h1.b ?_
      refine keep_ok (p := plI B c n) IN hc6 hlN hpl.1 hpl.2 (fun hk2 => ?_) (fun hk2 => ?_)
      · (first | refine t1n ?_ | refine t1e ?_)
        refine play_ok h1 h2 q0 q6 (fun N1 p1 p2 p3 p4 => ⟨⟨h0, h8⟩, ?_⟩)
        have I1 := IN.ag p4.ag
        (intro g eg _ _; have eg : g = N1 39 h := eg)
        rw [c_hwid I1.1] at eg
        refine sinkOf_ok p1.b p3 (by omega) (weightNow_ok p1.b ?_)
        have es : snk B c (fin B c q (chI B c n) 0 0) g (nly B c) = xH B c q (B 25 h) (plI B c n) := by
          rw [eg]
          exact snk_cg _ (fun k hk => fin_cg hdig hk)
        refine SvN_add_ok (h3.fr (p4 _ (by decide) (by decide) (by decide) (by decide) (by decide) (by decide) (by decide))) hk2 (by omega) es (wgt_cg _ hdig) (by have := xH_rng hR c q (B 25 h) (plI B c n); omega) (fun i _ => wgP_rng hR c _) (fun N2 s1 s2 => ?_)
        refine nxt N2 (I1.ag (svAg s2)) ?_ (p1.sv s2) (p2.sv s2) s1
        rw [s2 _ (by decide), p4 _ (by decide) (by decide) (by decide) (by decide) (by decide) (by decide) (by decide)]
        exact hlN
      · (first | refine t0n ?_ | refine t0e ?_)
        exact nxt N IN hlN h1 h2 (h3.skip hk2)
  exact key (nCh B c) 0 M4 (by omega) (I2.ag t4.ag) (by rw [t4 _ (by decide) (by decide) (by decide) (by decide) (by decide) (by decide) (by decide)]; exact hl2) u1 u2 (SvN.start (v2.fr (t4 _ (by decide) (by decide) (by decide) (by decide) (by decide) (by decide) (by decide))))
end GOES
