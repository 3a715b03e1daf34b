/-! ===== odds, step ===== -/
noncomputable abbrev wV (B : Mem) (c mk : Int) (x : Int → Int) : Int := sm (fP (fun p => kept B c p ∧ mk ≤ x p) (wgP B c)) (nCh B c)
noncomputable abbrev wW (B : Mem) (c : Int) : Int := sm (fP (kept B c) (wgP B c)) (nCh B c)
noncomputable abbrev nK (B : Mem) (c : Int) : Int := sm (fP (kept B c) on1) (nCh B c)
noncomputable abbrev nS (B : Mem) (c mk : Int) (x : Int → Int) : Int := sm (fP (fun p => kept B c p ∧ mk ≤ x p) on1) (nCh B c)
/-- a fraction in least terms -/
noncomputable def shr (B : Mem) (c mk : Int) (x : Int → Int) (w : Int) : Int := (if w = 0 then wV B c mk x else wW B c) / (Nat.gcd (wV B c mk x).toNat (wW B c).toNat : Nat)
section ODDS
variable {M N B : Mem} {c mk : Int} {x : Int → Int}
theorem w_facts (hR : RB B) (hW : WF B) (c0 : 0 ≤ c) (c6 : c < 6) : (0 ≤ wV B c mk x ∧ wV B c mk x ≤ wW B c) ∧ (0 ≤ wW B c ∧ wW B c ≤ 531441 * 729) ∧ (nK B c ≠ 0 → 0 < wW B c) ∧ (0 ≤ nS B c mk x ∧ nS B c mk x ≤ nK B c) ∧ (nS B c mk x = 0 ↔ wV B c mk x = 0) ∧ (nS B c mk x < nK B c ↔ wV B c mk x < wW B c) := by
  have hma := many_all hR hW c0 c6
  have hnc := nCh_i hR hW c0 c6
  have hn : nCh B c ≤ 729 := by unfold nCh; omega
  have p1 : ∀ (P : Int → Prop), ∀ i : Nat, i < nCh B c → P i → 1 ≤ wgP B c i := fun P i _ _ => wgP_pos hR hW c0 c6 i
  have k1 := sm_bd (f := fP (fun p => kept B c p ∧ mk ≤ x p) (wgP B c)) (b := 531441) (nCh B c) (fun i _ => fP_bd (by decide) (wgP_rng hR c i))
  have k2 := sm_bd (f := fP (kept B c) (wgP B c)) (b := 531441) (nCh B c) (fun i _ => fP_bd (by decide) (wgP_rng hR c i))
  have k3 := sm_bd (f := fP (fun p => kept B c p ∧ mk ≤ x p) on1) (b := 1) (nCh B c) (fun i _ => fP_b1)
  have k4 := sm_bd (f := fP (fun p => kept B c p ∧ ¬ mk ≤ x p) on1) (b := 1) (nCh B c) (fun i _ => fP_b1)
  have k5 := sm_bd (f := fP (fun p => kept B c p ∧ ¬ mk ≤ x p) (wgP B c)) (b := 531441) (nCh B c) (fun i _ => fP_bd (by decide) (wgP_rng hR c i))
  have s1 := sm_split (P := kept B c) (S := fun p => mk ≤ x p) (g := on1) (nCh B c)
  have s2 := sm_split (P := kept B c) (S := fun p => mk ≤ x p) (g := wgP B c) (nCh B c)
  have z1 := fP_zero (P := kept B c) (p1 (kept B c))
  have z2 := fP_zero (P := fun p => kept B c p ∧ mk ≤ x p) (p1 (fun p => kept B c p ∧ mk ≤ x p))
  have z3 := fP_zero (P := fun p => kept B c p ∧ ¬ mk ≤ x p) (p1 (fun p => kept B c p ∧ ¬ mk ≤ x p))
  unfold wV wW nK nS
  refine ⟨⟨k1.1, by omega⟩, ⟨k2.1, by omega⟩, fun h => ?_, ⟨k3.1, by omega⟩, z2, ?_⟩
  · have : sm (fP (kept B c) (wgP B c)) (nCh B c) ≠ 0 := fun z => h (z1.mpr z)
    omega
  · have a : sm (fP (fun p => kept B c p ∧ ¬ mk ≤ x p) on1) (nCh B c) ≠ 0 ↔ sm (fP (fun p => kept B c p ∧ ¬ mk ≤ x p) (wgP B c)) (nCh B c) ≠ 0 := not_congr z3
    constructor
    · intro h
      have := a.mp (by omega)
      omega
    · intro h
      have := a.mpr (by omega)
      omega
theorem fraction_ok {w : Int} {Q : Int → Prop} (hR : RB B) (hW : WF B) (c0 : 0 ≤ c) (c6 : c < 6) (h : SvF M B c mk x) (hK : nK B c ≠ 0) (hw : R32 w) (kk : Q (shr B c mk x w)) : w_Survey_fraction M w Q := by
  obtain ⟨f1, f2, f3, _⟩ := w_facts (mk := mk) (x := x) hR hW c0 c6
  have f3 := f3 hK
  unfold w_Survey_fraction
  (intro a ea _ _; have ea : a = M 9 3 := ea)
  rw [h.2.2.2.1] at ea
  (intro b eb _ _; have eb : b = M 9 2 := eb)
  rw [h.2.2.1] at eb
  have ea : a = wV B c mk x := ea
  have eb : b = wW B c := eb
  unfold shr at kk
  rw [← ea, ← eb] at kk
  obtain ⟨u, rfl⟩ : ∃ n : Nat, a = n := ⟨a.toNat, by omega⟩
  obtain ⟨l, rfl⟩ : ∃ n : Nat, b = n := ⟨b.toNat, by omega⟩
  exact leastTerms_ok (by omega) (by omega) (by omega) hw kk
theorem m_share_ok {T : Int → Prop} {w : Int} {Q : Int → Prop} (hR : RB B) (hW : WF B) (c0 : 0 ≤ c) (c6 : c < 6) (h : MvF M B c (fun p => kept B c p ∧ mk ≤ x p) T x) (hK : nK B c ≠ 0) (hw : R32 w) (kk : Q (shr B c mk x w)) : w_m_share M w Q := by
  obtain ⟨f1, f2, f3, _⟩ := w_facts (mk := mk) (x := x) hR hW c0 c6
  have f3 := f3 hK
  unfold w_m_share
  (intro a ea _ _; have ea : a = M 12 35 := ea)
  rw [h.1] at ea
  (intro b eb _ _; have eb : b = M 12 36 := eb)
  rw [h.2.1] at eb
  have ea : a = wV B c mk x := ea
  have eb : b = wW B c := eb
  unfold shr at kk
  rw [← ea, ← eb] at kk
  obtain ⟨u, rfl⟩ : ∃ n : Nat, a = n := ⟨a.toNat, by omega⟩
  obtain ⟨l, rfl⟩ : ∃ n : Nat, b = n := ⟨b.toNat, by omega⟩
  have g0 : 0 < Nat.gcd u l := Nat.gcd_pos_of_pos_right u (by omega)
  have g1 : Nat.gcd u l ≤ l := Nat.le_of_dvd (by omega) (Nat.gcd_dvd_right u l)
  refine m_gcd_ok l u (by omega) (by omega) ⟨hw, fun z => ?_, fun z => ?_⟩
  · (intro d ed _ _; have ed : d = M 12 36 := ed)
    rw [h.2.1] at ed
    have ed : d = wW B c := ed
    rw [if_neg z] at kk
    rw [(show d = l by omega)]
    exact ⟨by omega, kk⟩
  · (intro d ed _ _; have ed : d = M 12 35 := ed)
    rw [h.1] at ed
    have ed : d = wV B c mk x := ed
    rw [if_pos z] at kk
    rw [(show d = u by omega)]
    exact ⟨by omega, kk⟩
end ODDS
theorem both_odds {M B : Mem} {c q l w : Int} {Q : Int → Int → Mem → Prop} (I : Inv M B) (hc : R32 c) (hq : R32 q) (hl : R32 l) (hw : R32 w) (k : ∀ (r : Int) (N B' : Mem), Inv N B' → Q r r N) : w_S_odds M c q l w (fun r M1 => w_m_odds M1 c q l w (fun r2 M2 => Q r r2 M2)) := by
  obtain ⟨hC, hM, hR, hW, hS, hCC, hCM⟩ := id I
  have hsh := b_shakes hR 0
  unfold w_S_odds
  refine hasLayer_ok hC hc hl (fun e => ?_) (fun c0 c6 l0 l1 => ?_)
  · (first | refine t0n ?_ | refine t0e ?_)
    unfold w_m_odds
    refine m_isLayer_ok hM hc hl (fun _ => ?_) (fun a b d f => absurd ⟨a, b, d, f⟩ e)
    (first | refine t0n ?_ | refine t0e ?_)
    exact k _ _ _ I
  (first | refine t1n ?_ | refine t1e ?_)
  refine hasShake_ok hC hq (fun e => ?_) (fun q0 q1 => ?_)
  · (first | refine t0n ?_ | refine t0e ?_)
    unfold w_m_odds
    refine m_isLayer_ok hM hc hl (fun e => absurd ⟨c0, c6, l0, l1⟩ e) (fun _ _ _ _ => ?_)
    (first | refine t1n ?_ | refine t1e ?_)
    refine m_isShake_ok hM hq (fun _ => ?_) (fun a b => absurd ⟨a, b⟩ e)
    (first | refine t0n ?_ | refine t0e ?_)
    exact k _ _ _ I
  (first | refine t1n ?_ | refine t1e ?_)
  refine S_beyond_ok hw (by decide) (by decide) (fun e => ?_) (fun w0 w1 => ?_)
  · (first | refine t1n ?_ | refine t1e ?_)
    unfold w_m_odds
    refine m_isLayer_ok hM hc hl (fun e => absurd ⟨c0, c6, l0, l1⟩ e) (fun _ _ _ _ => ?_)
    (first | refine t1n ?_ | refine t1e ?_)
    refine m_isShake_ok hM hq (fun e => absurd ⟨q0, q1⟩ e) (fun _ _ => ?_)
    (first | refine t1n ?_ | refine t1e ?_)
    refine ⟨hw, m_in_ok hw (by decide) (by decide) (fun _ => ?_) (fun a b => absurd e (by omega))⟩
    (first | refine t0n ?_ | refine t0e ?_)
    exact k _ _ _ I
  (first | refine t0n ?_ | refine t0e ?_)
  have hn := nly_i hR c
  obtain ⟨c, rfl⟩ : ∃ n : Nat, c = n := ⟨c.toNat, by omega⟩
  obtain ⟨l, rfl⟩ : ∃ n : Nat, l = n := ⟨l.toNat, by omega⟩
  have mod : ∀ (N : Mem) (r : Int), Inv N B → (nK B c = 0 → r = -1005) → (nK B c ≠ 0 → r = shr B c 0 (xL B c q l) w) → w_m_odds N c q l w (fun r2 M2 => Q r r2 M2) := by
    intro N r IN r0 r1
    unfold w_m_odds
    refine m_isLayer_ok IN.2.1 hc hl (fun e => absurd ⟨c0, c6, l0, l1⟩ e) (fun _ _ _ _ => ?_)
    (first | refine t1n ?_ | refine t1e ?_)
    refine m_isShake_ok IN.2.1 hq (fun e => absurd ⟨q0, q1⟩ e) (fun _ _ => ?_)
    (first | refine t1n ?_ | refine t1e ?_)
    refine ⟨hw, m_in_ok hw (by decide) (by decide) (fun e => absurd e (by omega)) (fun _ _ => ?_)⟩
    (first | refine t1n ?_ | refine t1e ?_)
    refine m_goThrough_ok IN c0 c6 q0 (by omega) (by omega) (fun O o1 o2 => ?_) (fun O o1 o2 o3 => ?_)
    · (first | refine t0n ?_ | refine t0e ?_)
      rw [r0 o2]
      exact k _ _ _ o1
    · (first | refine t1n ?_ | refine t1e ?_)
      refine m_share_ok hR hW c0 c6 o3 o2 hw ?_
      rw [r1 o2]
      exact k _ _ _ o1
  refine surveyLayer_ok I (by omega) q0 (by omega) (by omega) (fun N IN v => ?_)
  (intro a ea _ _; have ea : a = N 9 0 := ea)
  rw [v.1] at ea
  subst ea
  refine ⟨fun h => fraction_ok hR hW c0 c6 v h hw (mod N _ IN (fun z => absurd z h) (fun _ => rfl)), fun h => mod N _ IN (fun _ => rfl) (fun z => absurd h z)⟩
/-- the answer of step -/
def ansS (B : Mem) (c : Int) (x : Int → Int) (w r : Int) : Prop := (w = 0 → (nS B c 0 x = 0 → r = -1) ∧ (nS B c 0 x ≠ 0 → isMn (allK B c (fun p => kept B c p ∧ 0 ≤ x p)) x r)) ∧ (w ≠ 0 → (nS B c 0 x < nK B c → r = -1) ∧ (¬ nS B c 0 x < nK B c → isMx (allK B c (kept B c)) x r))
theorem ansS.uni {B : Mem} {c : Int} {x : Int → Int} {w r r' : Int} (h : ansS B c x w r) (h' : ansS B c x w r') : r = r' := by
  by_cases e : w = 0
  · have a := h.1 e
    have b := h'.1 e
    by_cases z : nS B c 0 x = 0
    · rw [a.1 z, b.1 z]
    · exact (a.2 z).uni (b.2 z)
  · have a := h.2 e
    have b := h'.2 e
    by_cases z : nS B c 0 x < nK B c
    · rw [a.1 z, b.1 z]
    · exact (a.2 z).uni (b.2 z)
theorem allK_some {B : Mem} (hR : RB B) (hW : WF B) {c : Int} (c0 : 0 ≤ c) (c6 : c < 6) {P : Int → Prop} : sm (fP P on1) (nCh B c) ≠ 0 ↔ ∃ p, allK B c P p := by
  rw [fP_some]
  constructor
  · rintro ⟨i, h1, h2⟩; exact ⟨i, (below_all hR hW c0 c6 P i).mpr ⟨by omega, h2⟩⟩
  · rintro ⟨p, hp⟩
    have := (below_all hR hW c0 c6 P p).mp hp
    refine ⟨p.toNat, by omega, ?_⟩
    rw [(show ((p.toNat : Nat) : Int) = p by omega)]
    exact this.2
/-- all so: the two sets are one -/
theorem all_so {B : Mem} (hR : RB B) (hW : WF B) {c mk : Int} {x : Int → Int} (c0 : 0 ≤ c) (c6 : c < 6) (h : ¬ nS B c mk x < nK B c) (p : Int) : allK B c (fun p => kept B c p ∧ mk ≤ x p) p ↔ allK B c (kept B c) p := by
  have s1 := sm_split (P := kept B c) (S := fun p => mk ≤ x p) (g := on1) (nCh B c)
  have k4 := sm_bd (f := fP (fun p => kept B c p ∧ ¬ mk ≤ x p) on1) (b := 1) (nCh B c) (fun i _ => fP_b1)
  unfold nS nK at h
  have z : ¬ ∃ p, allK B c (fun p => kept B c p ∧ ¬ mk ≤ x p) p := fun y => (allK_some hR hW c0 c6).mpr y (by omega)
  constructor
  · rintro ⟨a, b, _⟩; exact ⟨a, b⟩
  · rintro ⟨a, b⟩
    refine ⟨a, b, Classical.byContradiction (fun y => z ⟨p, a, b, y⟩)⟩
theorem both_step {M B : Mem} {c q l w : Int} {Q : Int → Int → Mem → Prop} (I : Inv M B) (hc : R32 c) (hq : R32 q) (hl : R32 l) (hw : R32 w) (k : ∀ (r : Int) (N B' : Mem), Inv N B' → Q r r N) : w_S_step M c q l w (fun r M1 => w_m_step M1 c q l w (fun r2 M2 => Q r r2 M2)) := by
  obtain ⟨hC, hM, hR, hW, hS, hCC, hCM⟩ := id I
  have hsh := b_shakes hR 0
  unfold w_S_step
  refine hasLayer_ok hC hc hl (fun e => ?_) (fun c0 c6 l0 l1 => ?_)
  · (first | refine t0n ?_ | refine t0e ?_)
    unfold w_m_step
    refine m_isLayer_ok hM hc hl (fun _ => ?_) (fun a b d f => absurd ⟨a, b, d, f⟩ e)
    (first | refine t0n ?_ | refine t0e ?_)
    exact k _ _ _ I
  (first | refine t1n ?_ | refine t1e ?_)
  refine hasShake_ok hC hq (fun e => ?_) (fun q0 q1 => ?_)
  · (first | refine t0n ?_ | refine t0e ?_)
    unfold w_m_step
    refine m_isLayer_ok hM hc hl (fun e => absurd ⟨c0, c6, l0, l1⟩ e) (fun _ _ _ _ => ?_)
    (first | refine t1n ?_ | refine t1e ?_)
    refine m_isShake_ok hM hq (fun _ => ?_) (fun a b => absurd ⟨a, b⟩ e)
    (first | refine t0n ?_ | refine t0e ?_)
    exact k _ _ _ I
  (first | refine t1n ?_ | refine t1e ?_)
  refine S_beyond_ok hw (by decide) (by decide) (fun e => ?_) (fun w0 w1 => ?_)
  · (first | refine t1n ?_ | refine t1e ?_)
    unfold w_m_step
    refine m_isLayer_ok hM hc hl (fun e => absurd ⟨c0, c6, l0, l1⟩ e) (fun _ _ _ _ => ?_)
    (first | refine t1n ?_ | refine t1e ?_)
    refine m_isShake_ok hM hq (fun e => absurd ⟨q0, q1⟩ e) (fun _ _ => ?_)
    (first | refine t1n ?_ | refine t1e ?_)
    refine ⟨hw, m_in_ok hw (by decide) (by decide) (fun _ => ?_) (fun a b => absurd e (by omega))⟩
    (first | refine t0n ?_ | refine t0e ?_)
    exact k _ _ _ I
  (first | refine t0n ?_ | refine t0e ?_)
  have hn := nly_i hR c
  obtain ⟨c, rfl⟩ : ∃ n : Nat, c = n := ⟨c.toNat, by omega⟩
  obtain ⟨l, rfl⟩ : ∃ n : Nat, l = n := ⟨l.toNat, by omega⟩
  obtain ⟨f1, f2, f3, f4, f5, f6⟩ := w_facts (mk := 0) (x := xL B c q l) hR hW c0 c6
  have mod : ∀ (N : Mem) (r : Int), Inv N B → (nK B c = 0 → r = -1005) → (nK B c ≠ 0 → ansS B c (xL B c q l) w r) → w_m_step N c q l w (fun r2 M2 => Q r r2 M2) := by
    intro N r IN r0 r1
    unfold w_m_step
    refine m_isLayer_ok IN.2.1 hc hl (fun e => absurd ⟨c0, c6, l0, l1⟩ e) (fun _ _ _ _ => ?_)
    (first | refine t1n ?_ | refine t1e ?_)
    refine m_isShake_ok IN.2.1 hq (fun e => absurd ⟨q0, q1⟩ e) (fun _ _ => ?_)
    (first | refine t1n ?_ | refine t1e ?_)
    refine ⟨hw, m_in_ok hw (by decide) (by decide) (fun e => absurd e (by omega)) (fun _ _ => ?_)⟩
    (first | refine t1n ?_ | refine t1e ?_)
    refine m_goThrough_ok IN c0 c6 q0 (by omega) (by omega) (fun O o1 o2 => ?_) (fun O o1 o2 o3 => ?_)
    · (first | refine t0n ?_ | refine t0e ?_)
      rw [r0 o2]
      exact k _ _ _ o1
    · (first | refine t1n ?_ | refine t1e ?_)
      have r1 := r1 o2
      have hsm := allK_some (P := fun p => kept B c p ∧ 0 ≤ xL B c q l p) hR hW c0 c6
      refine ⟨hw, fun hz => ?_, fun hz => ?_⟩
      · (intro s es _ _; have es : s = O 12 35 := es)
        (intro a ea _ _; have ea : a = O 12 36 := ea)
        rw [o3.1] at es
        rw [o3.2.1] at ea
        have es : s = wV B c 0 (xL B c q l) := es
        have ea : a = wW B c := ea
        refine ⟨fun h => ?_, fun h => ?_⟩
        · have hns : ¬ nS B c 0 (xL B c q l) < nK B c := fun z => by have := f6.mp z; omega
          (intro g eg _ _; have eg : g = O 12 38 := eg)
          have : ansS B c (xL B c q l) w g := ⟨fun z => absurd z hz, fun _ => ⟨fun z => absurd z hns, fun _ => ?_⟩⟩
          · rw [r1.uni this]; exact k _ _ _ o1
          · rw [eg]
            rcases o3.2.2 with ⟨n1, _⟩ | ⟨_, _, n2⟩
            · have : nS B c 0 (xL B c q l) ≠ 0 := fun z => o2 ((Int.le_antisymm f4.2 (Int.not_lt.mp hns)).symm.trans z)
              obtain ⟨p, hp⟩ := hsm.mp this
              exact absurd hp (n1 p)
            · exact n2.cg (fun p => (all_so hR hW c0 c6 hns p).symm)
        · have hns : nS B c 0 (xL B c q l) < nK B c := f6.mpr (by omega)
          rw [(r1.2 hz).1 hns]
          exact k _ _ _ o1
      · (intro g eg _ _; have eg : g = O 12 37 := eg)
        have : ansS B c (xL B c q l) w g := by
          refine ⟨fun _ => ?_, fun z => absurd hz z⟩
          rw [eg]
          rcases o3.2.2 with ⟨n1, n2, _⟩ | ⟨ex, n2, _⟩
          · exact ⟨fun _ => n2, fun z => by obtain ⟨p, hp⟩ := hsm.mp z; exact absurd hp (n1 p)⟩
          · exact ⟨fun z => absurd z (hsm.mpr ex), fun _ => n2⟩
        rw [r1.uni this]
        exact k _ _ _ o1
  refine surveyLayer_ok I (by omega) q0 (by omega) (by omega) (fun N IN v => ?_)
  obtain ⟨v1, v2, v3, v4, v5, v6⟩ := v
  have v1 : N 9 0 = nK B c := v1
  have v2 : N 9 1 = nS B c 0 (xL B c q l) := v2
  (intro a ea _ _; have ea : a = N 9 0 := ea)
  rw [v1] at ea
  subst ea
  refine ⟨fun h => ⟨hw, fun hz => ?_, fun hz => ?_⟩, fun h => mod N _ IN (fun _ => rfl) (fun z => absurd h z)⟩
  · (intro s es _ _; have es : s = N 9 1 := es)
    (intro t et _ _; have et : t = N 9 0 := et)
    rw [v2] at es
    rw [v1] at et
    refine ⟨fun y => ?_, fun y => ?_⟩
    · (intro g eg _ _; have eg : g = N 9 5 := eg)
      refine mod N _ IN (fun z => absurd z h) (fun _ => ⟨fun z => absurd z hz, fun _ => ⟨fun z => absurd z (by omega), fun _ => ?_⟩⟩)
      rw [eg]
      exact (v5 ((allK_some hR hW c0 c6).mp h)).2
    · exact mod N _ IN (fun z => absurd z h) (fun _ => ⟨fun z => absurd z hz, fun _ => ⟨fun _ => rfl, fun z => absurd z (by omega)⟩⟩)
  · (intro s es _ _; have es : s = N 9 1 := es)
    rw [v2] at es
    refine ⟨fun y => ?_, fun y => ?_⟩
    · (intro g eg _ _; have eg : g = N 9 6 := eg)
      refine mod N _ IN (fun z => absurd z h) (fun _ => ⟨fun _ => ⟨fun z => absurd z (by omega), fun z => ?_⟩, fun z => absurd hz z⟩)
      rw [eg]
      exact v6 ((allK_some hR hW c0 c6).mp z)
    · exact mod N _ IN (fun z => absurd z h) (fun _ => ⟨fun _ => ⟨fun _ => rfl, fun z => absurd (es.symm.trans y) z⟩, fun z => absurd hz z⟩)
