/-! ===== the model's run, whole ===== -/
theorem PM.fr {M N : Mem} {P : Nat → Int × Int} {n : Nat} (h : PM M P n) (e1 : N 69 = M 69) (e2 : N 70 = M 70) : PM N P n := fun k hk => by rw [e1, e2]; exact h k hk
/-- what the run hangs on -/
def RunM (M B : Mem) (c q : Int) (ch : Nat → Int) (mo le : Int) : Prop := (MB M B) ∧ (RB B) ∧ (WF B) ∧ (0 ≤ c) ∧ (c < 6) ∧ (0 ≤ q) ∧ (q < 6) ∧ (∀ k : Nat, k < nly B c → M 68 k = ch k) ∧ (M 12 22 = mo) ∧ (M 12 23 = le) ∧ (0 ≤ mo ∧ mo ≤ 3000) ∧ (0 ≤ le ∧ le ≤ 3000)
theorem RunM.hM {M B : Mem} {c q : Int} {ch : Nat → Int} {mo le : Int} (h : RunM M B c q ch mo le) : MB M B := h.1
theorem RunM.hR {M B : Mem} {c q : Int} {ch : Nat → Int} {mo le : Int} (h : RunM M B c q ch mo le) : RB B := h.2.1
theorem RunM.hW {M B : Mem} {c q : Int} {ch : Nat → Int} {mo le : Int} (h : RunM M B c q ch mo le) : WF B := h.2.2.1
theorem RunM.c0 {M B : Mem} {c q : Int} {ch : Nat → Int} {mo le : Int} (h : RunM M B c q ch mo le) : 0 ≤ c := h.2.2.2.1
theorem RunM.c6 {M B : Mem} {c q : Int} {ch : Nat → Int} {mo le : Int} (h : RunM M B c q ch mo le) : c < 6 := h.2.2.2.2.1
theorem RunM.q0 {M B : Mem} {c q : Int} {ch : Nat → Int} {mo le : Int} (h : RunM M B c q ch mo le) : 0 ≤ q := h.2.2.2.2.2.1
theorem RunM.q6 {M B : Mem} {c q : Int} {ch : Nat → Int} {mo le : Int} (h : RunM M B c q ch mo le) : q < 6 := h.2.2.2.2.2.2.1
theorem RunM.hch {M B : Mem} {c q : Int} {ch : Nat → Int} {mo le : Int} (h : RunM M B c q ch mo le) : ∀ k : Nat, k < nly B c → M 68 k = ch k := h.2.2.2.2.2.2.2.1
theorem RunM.hmo {M B : Mem} {c q : Int} {ch : Nat → Int} {mo le : Int} (h : RunM M B c q ch mo le) : M 12 22 = mo := h.2.2.2.2.2.2.2.2.1
theorem RunM.hle {M B : Mem} {c q : Int} {ch : Nat → Int} {mo le : Int} (h : RunM M B c q ch mo le) : M 12 23 = le := h.2.2.2.2.2.2.2.2.2.1
theorem RunM.mo0 {M B : Mem} {c q : Int} {ch : Nat → Int} {mo le : Int} (h : RunM M B c q ch mo le) : 0 ≤ mo ∧ mo ≤ 3000 := h.2.2.2.2.2.2.2.2.2.2.1
theorem RunM.le0 {M B : Mem} {c q : Int} {ch : Nat → Int} {mo le : Int} (h : RunM M B c q ch mo le) : 0 ≤ le ∧ le ≤ 3000 := h.2.2.2.2.2.2.2.2.2.2.2
theorem RunM.fr {M N B : Mem} {c q : Int} {ch : Nat → Int} {mo le : Int} (h : RunM M B c q ch mo le) (f : Fr6 M N) : RunM N B c q ch mo le :=
  ⟨h.hM.ag f.ag, h.hR, h.hW, h.c0, h.c6, h.q0, h.q6, fun k hk => by rw [f 68 (by decide) (by decide) (by decide) (by decide) (by decide) (by decide)]; exact h.hch k hk, by rw [f 12 (by decide) (by decide) (by decide) (by decide) (by decide) (by decide)]; exact h.hmo, by rw [f 12 (by decide) (by decide) (by decide) (by decide) (by decide) (by decide)]; exact h.hle, h.mo0, h.le0⟩
theorem beats_i {B : Mem} (hR : RB B) (q : Int) : B 8 q = ((B 8 q).toNat : Nat) ∧ (B 8 q).toNat ≤ 30 := by
  have := b_beats hR q
  omega
theorem bt1_late {B : Mem} {c q : Int} {ch : Nat → Int} {le : Int} (P : Nat → Int × Int) {s : Nat} (h : B 8 q ≤ s) : bt1 B c q ch le P s = P := by
  funext k
  unfold bt1
  rw [if_neg (by omega)]
theorem nst_i {B : Mem} (hR : RB B) (hW : WF B) (q : Int) : nst B q = (B 8 q).toNat + (B 10 24).toNat ∧ (B 10 24).toNat ≤ 30 ∧ B 10 24 = ((B 10 24).toNat : Nat) := by
  have h1 := b_beats hR q
  have h2 := b_rule hR 24
  have h3 := hW.2.2.2.1
  unfold nst
  omega
/-- the draining behind the beats -/
theorem m_after_ok {M B : Mem} {c q : Int} {ch : Nat → Int} {mo le : Int} {Q : Mem → Prop} (H : RunM M B c q ch mo le) (hpm : PM M (FF B c q ch mo le (B 8 q).toNat) (nly B c)) (hl : Laid M B c)
    (kk : ∀ N, PM N (fin B c q ch mo le) (nly B c) → Fr6 M N → Q N) : w_m_runOf_L4 Q c q 0 M := by
  obtain ⟨hb, hb30⟩ := beats_i H.hR q
  obtain ⟨hn, hn30, hr⟩ := nst_i H.hR H.hW q
  unfold w_m_runOf_L4
  intro X hX
  have key : ∀ (d i : Nat) (N : Mem), i + d = (B 10 24).toNat → PM N (FF B c q ch mo le ((B 8 q).toNat + i)) (nly B c) → Laid N B c → Fr6 M N → X i N := by
    intro d
    induction d with
    | zero =>
      intro i N hi h1 h2 h3
      have HN := H.fr h3
      apply hX
      unfold w_m_runOf_B4
      (intro a ea _ _; have ea : a = N 64 24 := ea)
      rw [m_rule HN.hM] at ea
      refine ⟨by omega, fun _ => kk N ?_ h3, fun h => absurd h (by omega)⟩
      unfold fin
      rw [hn, ← (show i = (B 10 24).toNat by omega)]
      exact h1
    | succ d ih =>
      intro i N hi h1 h2 h3
      have HN := H.fr h3
      apply hX
      unfold w_m_runOf_B4
      (intro a ea _ _; have ea : a = N 64 24 := ea)
      rw [m_rule HN.hM] at ea
      refine ⟨by omega, fun h => absurd h (by omega), fun _ => ⟨⟨H.q0, H.q6⟩, ?_⟩⟩
      (intro b eb _ _; have eb : b = N 62 q := eb)
      rw [m_beats HN.hM, hb] at eb
      subst eb
      have es : (((B 8 q).toNat : Nat) : Int) + (i : Int) = (((B 8 q).toNat + i : Nat) : Int) := by omega
      rw [es]
      refine m_drain_ok HN.hM H.hR H.c0 H.c6 HN.hmo H.mo0 (by omega) (fun k => (FF_ok H.hR H.hW c q ch H.mo0.1 H.le0.1 ((B 8 q).toNat + i) k).up) h1 h2 (fun O o1 o2 o3 => ?_)
      refine ih (i + 1) O (by omega) ?_ o2 (h3.trans (fun h e1 e2 e3 e4 _ _ => o3 h e1 e2 e4))
      rw [← Nat.add_assoc, FF_drn, bt1_late _ (by omega)]
      exact o1
  exact key (B 10 24).toNat 0 M (by omega) hpm hl Fr6.rf
/-- one beat's growth, the strengths laid -/
theorem m_grows_ok {M B : Mem} {c q : Int} {ch : Nat → Int} {mo le : Int} {s : Nat} {P : Nat → Int × Int} {Q : Mem → Prop} {X69 : Int → Mem → Prop} (H : RunM M B c q ch mo le) (hs : (s : Int) < B 8 q) (hP : ∀ k, okP (P k) s) (hpm : PM M P (nly B c)) (hl : Laid M B c) (hst : ∀ k : Nat, k < nly B c → M 71 k = arr B c q P s k)
    (kk : ∀ N, PM N (drn B c mo (bt1 B c q ch le P s) s) (nly B c) → Laid N B c → Fr6 M N → X69 (s + 1 : Nat) N) : w_m_runOf_L3 Q X69 c q (nly B c) s 0 M := by
  obtain ⟨hn, hn6⟩ := nly_i H.hR c
  have hb30 := b_beats H.hR q
  unfold w_m_runOf_L3
  intro X hX
  have key : ∀ (d i : Nat) (N : Mem), i + d = nly B c → PM N (fun k => if k < i then bt1 B c q ch le P s k else P k) (nly B c) → Fr2 M N → X i N := by
    intro d
    induction d with
    | zero =>
      intro i N hi h1 h2
      have HN := H.fr h2.six
      apply hX
      unfold w_m_runOf_B3
      refine ⟨by omega, by omega, fun _ => ?_, fun h => absurd h (by omega)⟩
      refine m_drain_ok HN.hM H.hR H.c0 H.c6 HN.hmo H.mo0 (P := fun k => if k < i then bt1 B c q ch le P s k else P k) (by omega) (fun k => ?_) h1 (hl.fr (h2 _ (by decide) (by decide)) (h2 _ (by decide) (by decide))) (fun O o1 o2 o3 => ?_)
      · split
        · exact bt1_ok H.hR H.hW c q ch H.le0.1 P s k (by omega) (hP k)
        · exact (hP k).up
      · refine kk O (o1.cg (fun k hk => ?_)) o2 (h2.six.trans (fun h e1 e2 e3 e4 _ _ => o3 h e1 e2 e4))
        unfold drn
        dsimp only
        rw [if_pos (show k < i by omega)]
        by_cases e : k + 1 < nly B c
        · rw [if_pos e, if_pos e, if_pos (show k + 1 < i by omega)]
        · rw [if_neg e, if_neg e]
    | succ d ih =>
      intro i N hi h1 h2
      have HN := H.fr h2.six
      have hi6 : i < nly B c := by omega
      have hb := h1 i hi6
      dsimp only at hb
      rw [if_neg (by omega)] at hb
      have hPi := hP i
      have hli := (hl.fr (h2 _ (by decide) (by decide)) (h2 _ (by decide) (by decide))) i hi6
      have step : ∀ O : Mem, O 69 i = (bt1 B c q ch le P s i).1 → O 70 i = (bt1 B c q ch le P s i).2 → (∀ j : Int, j ≠ i → O 69 j = N 69 j ∧ O 70 j = N 70 j) → Fr2 N O → X (i + 1 : Nat) O := by
        intro O o1 o2 o3 o4
        refine ih (i + 1) O (by omega) (fun k hk => ?_) (h2.trans o4)
        dsimp only
        by_cases e : k = i
        · subst e
          rw [if_pos (by omega)]
          exact ⟨o1, o2⟩
        · have e2 : ¬ (k : Int) = i := fun z => e (Int.ofNat_inj.mp z)
          obtain ⟨g1, g2⟩ := o3 k e2
          rw [g1, g2]
          have := h1 k hk
          dsimp only at this
          by_cases e3 : k < i
          · rw [if_pos e3] at this; rw [if_pos (by omega)]; exact this
          · rw [if_neg e3] at this; rw [if_neg (by omega)]; exact this
      have same : bt1 B c q ch le P s i = P i → X (i + 1 : Nat) N := fun e => step N (by rw [e]; exact hb.1) (by rw [e]; exact hb.2) (fun _ _ => ⟨rfl, rfl⟩) Fr2.rf
      apply hX
      unfold w_m_runOf_B3
      refine ⟨by omega, by omega, fun h => absurd h (by omega), fun _ => ⟨by omega, ?_⟩⟩
      (intro a ea _ _; have ea : a = N 73 i := ea)
      refine ⟨fun hz => same ?_, fun hz => ⟨by omega, ?_⟩⟩
      · have hw : ¬ wet B c i := by
          rcases hli.1 with y | y
          · omega
          · exact y.2
        unfold bt1
        rw [if_neg hw]
        split <;> rfl
      have hw : wet B c i := by
        rcases hli.1 with y | y
        · exact y.2
        · exact absurd (ea.trans y.1) hz
      (intro g eg _ _; have eg : g = N 70 i := eg)
      rw [hb.2] at eg
      refine ⟨fun hz => same ?_, fun hz2 => ⟨by omega, ?_⟩⟩
      · unfold bt1 gain
        rw [if_pos hs, if_pos hw, if_neg (by omega)]
      have hm1 : (P i).2 = -1 := by omega
      (intro h eh _ _; have eh : h = N 68 i := eh)
      rw [HN.hch i hi6] at eh
      subst eh
      have c0 := H.c0
      have c6 := H.c6
      refine ⟨by omega, ?_⟩
      (intro v ev _ _; have ev : v = N 59 (3 * (6 * c + i) + ch i) := ev)
      rw [m_value HN.hM, (show 3 * (6 * c + (i : Int)) + ch i = (c * 6 + i) * 3 + ch i by omega)] at ev
      (intro l el _ _; have el : l = N 12 23 := el)
      rw [HN.hle] at el
      subst el
      have mid : ∀ z : Int, z = max 0 (B 6 ((c * 6 + i) * 3 + ch i) - l) → w_m_runOf_j1 Q X69 X c q (nly B c) s i (6 * c + i) z N := by
        intro z ez
        unfold w_m_runOf_j1
        refine ⟨by omega, ?_⟩
        (intro x ex _ _; have ex : x = N 71 i := ex)
        rw [h2 71 (by decide) (by decide), hst i hi6] at ex
        refine ⟨by have := H.c0; have := H.c6; omega, ?_⟩
        (intro y ey _ _; have ey : y = N 56 (6 * c + i) := ey)
        rw [m_kind HN.hM, Int.mul_comm 6 c] at ey
        (intro r er _ _; have er : r = N 64 (5 * y) := er)
        rw [m_rule HN.hM, ey, Int.mul_comm 5] at er
        have er : r = rlk B c i 0 := by rw [er]; unfold rlk; rw [Int.add_zero]
        refine ⟨by omega, ?_⟩
        (intro w ew _ _; have ew : w = N 74 i := ew)
        rw [hli.2] at ew
        subst ex
        subst er
        subst ew
        subst ez
        have hnum := grw_num H.hR H.hW c q P s i (i := (c * 6 + i) * 3 + ch i) H.le0.1
        have hgr := grw_rng H.hR H.hW c q ch H.le0.1 P s i (by omega)
        have hh := hld_rng H.hR c i (by omega)
        have e1 : arr B c q P s i * max 0 (B 6 ((c * 6 + i) * 3 + ch i) - l) * rlk B c i 0 = arr B c q P s i * (rlk B c i 0 * max 0 (B 6 ((c * 6 + i) * 3 + ch i) - l)) := by rw [Int.mul_assoc, Int.mul_comm (max 0 _)]
        rw [e1]
        refine ⟨by omega, ?_⟩
        refine m_grow_ok (p := (P i).1) (by omega) hb.1 (by rw [hb.2]; exact hm1) ⟨hPi.1, hPi.2.1⟩ ⟨hgr.1, by have := hgr.2; unfold grw at this; omega⟩ (by omega) (fun O o1 o2 o3 o4 => ?_)
        have e2 : bt1 B c q ch l P s i = gain ((P i).1, -1) s (arr B c q P s i * (rlk B c i 0 * max 0 (B 6 ((c * 6 + i) * 3 + ch i) - l)) / (10 * hld B c i)) := by
          unfold bt1
          rw [if_pos hs, if_pos hw, ← hm1]
          rfl
        exact step O (by rw [o1, e2]) (by rw [o2, e2]) o3 o4
      rw [ev]
      exact ⟨fun h => mid _ (by omega), fun h => mid _ (by omega)⟩
  exact key (nly B c) 0 M (by omega) (hpm.cg (fun k hk => by rw [if_neg (by omega)])) Fr2.rf
/-- a beat -/
theorem m_beat_ok {M B : Mem} {c q : Int} {ch : Nat → Int} {mo le : Int} {s : Nat} {P : Nat → Int × Int} {Q : Mem → Prop} {X69 : Int → Mem → Prop} (H : RunM M B c q ch mo le) (hs : (s : Int) < B 8 q) (hP : ∀ k, okP (P k) s) (hpm : PM M P (nly B c)) (hl : Laid M B c)
    (kk : ∀ N, PM N (drn B c mo (bt1 B c q ch le P s) s) (nly B c) → Laid N B c → Fr6 M N → X69 (s + 1 : Nat) N) : w_m_runOf_L2 Q X69 c q (nly B c) s (B 9 (q * 30 + s)) (nly B c - 1) M := by
  obtain ⟨hn, hn6⟩ := nly_i H.hR c
  have hb30 := b_beats H.hR q
  have c0 := H.c0
  have c6 := H.c6
  unfold w_m_runOf_L2
  intro X hX
  have key : ∀ (e d : Nat) (N : Mem), d + e = nly B c → (∀ h, h ≠ 71 → N h = M h) → (∀ k : Nat, k < nly B c → nly B c ≤ k + d → N 71 k = arr B c q P s k) → X (arD B c P (B 9 (q * 30 + s)) d) ((nly B c : Int) - 1 - d) N := by
    intro e
    induction e with
    | zero =>
      intro d N hd h1 h2
      have f : Fr6 M N := fun h _ _ e3 _ _ _ => h1 h e3
      apply hX
      unfold w_m_runOf_B2
      refine ⟨by omega, fun _ => ?_, fun h => absurd h (by omega)⟩
      exact m_grows_ok (H.fr f) hs hP (hpm.fr (h1 _ (by decide)) (h1 _ (by decide))) (hl.fr (h1 _ (by decide)) (h1 _ (by decide))) (fun k hk => h2 k hk (by omega)) (fun O o1 o2 o3 => kk O o1 o2 (f.trans o3))
    | succ e ih =>
      intro d N hd h1 h2
      have f : Fr6 M N := fun h _ _ e3 _ _ _ => h1 h e3
      have HN := H.fr f
      have ha := arD_rng H.hR H.hW c P (b_strength H.hR (q * 30 + s)) d
      have ex : ((nly B c : Int) - 1 - d) = ((nly B c - 1 - d : Nat) : Int) := by omega
      have hk6 : nly B c - 1 - d < nly B c := by omega
      have hpk := hpm _ hk6
      rw [ex]
      apply hX
      unfold w_m_runOf_B2
      refine ⟨by omega, fun h => absurd h (by omega), fun _ => ⟨by omega, ?_⟩⟩
      (intro N1 eN1; subst eN1)
      refine ⟨by omega, ?_⟩
      have nx : ∀ z : Int, 0 ≤ z → z ≤ 100 → z = (if (P (nly B c - 1 - d)).2 = -1 then rlk B c (nly B c - 1 - d) 2 else B 10 22) → w_m_runOf_j0 Q X69 X c q (nly B c) s ((nly B c - 1 - d : Nat) : Int) (arD B c P (B 9 (q * 30 + s)) d) z (mset N 71 ((nly B c - 1 - d : Nat) : Int) (arD B c P (B 9 (q * 30 + s)) d)) := by
        intro z z0 z1 ez
        unfold w_m_runOf_j0
        refine ⟨by have := (pct ha ⟨z0, z1⟩).1; omega, ?_⟩
        have := ih (d + 1) (mset N 71 ((nly B c - 1 - d : Nat) : Int) (arD B c P (B 9 (q * 30 + s)) d)) (by omega) (fun h hh => by rw [mset_ne hh]; exact h1 h hh) (fun k hk hk2 => ?_)
        · rw [(show ((nly B c - 1 - d : Nat) : Int) + -1 = (nly B c : Int) - 1 - (d + 1 : Nat) by omega), ez]
          exact this
        · by_cases e3 : k = nly B c - 1 - d
          · rw [e3, ms_s]
            unfold arr
            rw [(show nly B c - 1 - (nly B c - 1 - d) = d by omega)]
          · have e4 : ¬ (k : Int) = ((nly B c - 1 - d : Nat) : Int) := fun z => e3 (Int.ofNat_inj.mp z)
            rw [ms_n e4]
            exact h2 k hk (by omega)
      (intro a ea _ _; have ea : a = N 70 ((nly B c - 1 - d : Nat) : Int) := ea)
      rw [h1 70 (by decide), hpk.2] at ea
      refine ⟨fun hz => ⟨by omega, ?_⟩, fun hz => ?_⟩
      · (intro y ey _ _; have ey : y = N 56 (6 * c + ((nly B c - 1 - d : Nat) : Int)) := ey)
        rw [m_kind HN.hM, Int.mul_comm 6 c] at ey
        (intro r er _ _; have er : r = N 64 (5 * y + 2) := er)
        rw [m_rule HN.hM, ey, Int.mul_comm 5] at er
        have er : r = rlk B c (nly B c - 1 - d) 2 := er
        have hp := rlk_pass H.hR H.hW c (nly B c - 1 - d)
        exact nx r (by omega) (by omega) (by rw [if_pos (by omega)]; exact er)
      · (intro r er _ _; have er : r = N 64 22 := er)
        rw [m_rule HN.hM] at er
        have := H.hW.2.2.1
        exact nx r (by omega) (by omega) (by rw [if_neg (by omega)]; exact er)
  have := key (nly B c) 0 M (by omega) (fun _ _ => rfl) (fun k hk hk2 => absurd hk2 (by omega))
  rw [(show ((nly B c : Int) - 1 - ((0 : Nat) : Int)) = (nly B c : Int) - 1 by omega)] at this
  exact this
/-- the beats, from states laid -/
theorem m_beats_ok {M B : Mem} {c q : Int} {ch : Nat → Int} {mo le : Int} {Q : Mem → Prop} (H : RunM M B c q ch mo le) (hpm : PM M (fun _ => (0, -1)) (nly B c)) (hl : Laid M B c)
    (kk : ∀ N, PM N (fin B c q ch mo le) (nly B c) → Fr6 M N → Q N) : w_m_runOf_L1 Q c q (nly B c) 0 M := by
  obtain ⟨hn, hn6⟩ := nly_i H.hR c
  obtain ⟨hb, hb30⟩ := beats_i H.hR q
  unfold w_m_runOf_L1
  intro X hX
  have key : ∀ (d s : Nat) (N : Mem), s + d = (B 8 q).toNat → PM N (FF B c q ch mo le s) (nly B c) → Laid N B c → Fr6 M N → X s N := by
    intro d
    induction d with
    | zero =>
      intro s N hi h1 h2 h3
      have HN := H.fr h3
      apply hX
      unfold w_m_runOf_B1
      refine ⟨⟨H.q0, H.q6⟩, ?_⟩
      (intro a ea _ _; have ea : a = N 62 q := ea)
      rw [m_beats HN.hM] at ea
      refine ⟨by omega, fun _ => ?_, fun h => absurd h (by omega)⟩
      rw [Nat.add_zero] at hi
      rw [hi] at h1
      exact m_after_ok HN h1 h2 (fun O o1 o2 => kk O o1 (h3.trans o2))
    | succ d ih =>
      intro s N hi h1 h2 h3
      have HN := H.fr h3
      apply hX
      unfold w_m_runOf_B1
      refine ⟨⟨H.q0, H.q6⟩, ?_⟩
      (intro a ea _ _; have ea : a = N 62 q := ea)
      rw [m_beats HN.hM] at ea
      refine ⟨by omega, fun h => absurd h (by omega), fun _ => ⟨by have := H.q0; have := H.q6; omega, ?_⟩⟩
      (intro b eb _ _; have eb : b = N 63 (30 * q + s) := eb)
      rw [m_strength HN.hM, Int.mul_comm 30 q] at eb
      subst eb
      refine m_beat_ok HN (by omega) (fun k => FF_ok H.hR H.hW c q ch H.mo0.1 H.le0.1 s k) h1 h2 (fun O o1 o2 o3 => ?_)
      refine ih (s + 1) O (by omega) ?_ o2 (h3.trans o3)
      rw [FF_drn]
      exact o1
  exact key (B 8 q).toNat 0 M (by omega) hpm hl Fr6.rf
theorem m_runOf_ok {M B : Mem} {c q : Int} {ch : Nat → Int} {mo le : Int} {Q : Mem → Prop} (H : RunM M B c q ch mo le)
    (kk : ∀ N, PM N (fin B c q ch mo le) (nly B c) → Fr6 M N → Q N) : w_m_runOf M c q Q := by
  obtain ⟨hn, hn6⟩ := nly_i H.hR c
  unfold w_m_runOf
  refine ⟨⟨H.c0, H.c6⟩, ?_⟩
  (intro a ea _ _; have ea : a = M 55 c := ea)
  rw [m_layers H.hM, hn] at ea
  subst ea
  unfold w_m_runOf_L0
  intro X hX
  have key : ∀ (d i : Nat) (N : Mem), i + d = nly B c → Fr6 M N → (∀ k : Nat, k < i → (N 69 k = 0 ∧ N 70 k = -1) ∧ (N 73 k = 1 ∧ wet B c k ∨ N 73 k = 0 ∧ ¬ wet B c k) ∧ N 74 k = hld B c k) → X i N := by
    intro d
    induction d with
    | zero =>
      intro i N hi h1 h2
      apply hX
      unfold w_m_runOf_B0
      refine ⟨by omega, by omega, fun _ => ?_, fun h => absurd h (by omega)⟩
      exact m_beats_ok (H.fr h1) (fun k hk => (h2 k (by omega)).1) (fun k hk => (h2 k (by omega)).2) (fun O o1 o2 => kk O o1 (h1.trans o2))
    | succ d ih =>
      intro i N hi h1 h2
      have hh := hld_rng H.hR c i (by omega)
      apply hX
      unfold w_m_runOf_B0
      refine ⟨by omega, by omega, fun h => absurd h (by omega), fun _ => ⟨by omega, ?_⟩⟩
      (intro N1 eN1; subst eN1)
      refine ⟨by omega, ?_⟩
      (intro N2 eN2; subst eN2)
      have fin : ∀ z : Int, z = 0 ∨ z = 1 → (z = 1 ∧ wet B c i ∨ z = 0 ∧ ¬ wet B c i) → (∀ M10 : Mem, M10 = mset (mset (mset N 69 i 0) 70 i (-1)) 73 i z → w_m_hold M10 c i (fun a11 => ((0 ≤ (i : Int) ∧ (i : Int) < 6) ∧ (0 ≤ a11 ∧ a11 ≤ 1000000)) ∧ (∀ M13 : Mem, M13 = mset M10 74 i a11 → X (i + 1) M13))) := by
        intro z z1 z2 M10 e10
        have f10 : Fr6 M M10 := by
          rw [e10]
          exact fun h a1 a2 a3 a4 a5 a6 => by rw [mset_ne a5, mset_ne a2, mset_ne a1]; exact h1 h a1 a2 a3 a4 a5 a6
        refine m_hold_ok (H.fr f10).hM H.hR H.c0 H.c6 i (by omega) ⟨by omega, ?_⟩
        intro M13 e13
        refine ih (i + 1) M13 (by omega) ?_ (fun k hk => ?_)
        · rw [e13]
          exact fun h a1 a2 a3 a4 a5 a6 => by rw [mset_ne a6]; exact f10 h a1 a2 a3 a4 a5 a6
        · rw [e13, e10]
          by_cases e : k = i
          · subst e
            refine ⟨⟨?_, ?_⟩, ?_, ?_⟩
            · rw [mset_ne (by decide), mset_ne (by decide), mset_ne (by decide), ms_s]
            · rw [mset_ne (by decide), mset_ne (by decide), ms_s]
            · rw [mset_ne (by decide), ms_s]; exact z2
            · rw [ms_s]
          · have e2 : ¬ (k : Int) = i := fun z => e (Int.ofNat_inj.mp z)
            have := h2 k (by omega)
            refine ⟨⟨?_, ?_⟩, ?_, ?_⟩
            · rw [mset_ne (by decide), mset_ne (by decide), mset_ne (by decide), ms_n e2]; exact this.1.1
            · rw [mset_ne (by decide), mset_ne (by decide), ms_n e2, mset_ne (by decide)]; exact this.1.2
            · rw [mset_ne (by decide), ms_n e2, mset_ne (by decide), mset_ne (by decide)]; exact this.2.1
            · rw [ms_n e2, mset_ne (by decide), mset_ne (by decide), mset_ne (by decide)]; exact this.2.2
      have f2 : Fr6 M (mset (mset N 69 i 0) 70 i (-1)) := fun h a1 a2 a3 a4 a5 a6 => by rw [mset_ne a2, mset_ne a1]; exact h1 h a1 a2 a3 a4 a5 a6
      refine m_isWet_ok (H.fr f2).hM H.hR H.c0 H.c6 i (by omega) (fun hw => ⟨by omega, fin 1 (Or.inr rfl) (Or.inl ⟨rfl, hw⟩)⟩) (fun hw => ⟨by omega, fin 0 (Or.inl rfl) (Or.inr ⟨rfl, hw⟩)⟩)
  exact key (nly B c) 0 M (by omega) Fr6.rf (fun k hk => absurd hk (by omega))
