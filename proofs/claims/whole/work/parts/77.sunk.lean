/-! ===== sink, sunk, floats ===== -/
theorem both_sink {M B : Mem} {h q w : Int} {Q : Int → Int → Mem → Prop} (I : Inv M B) (hh : R32 h) (hq : R32 q) (hw : R32 w) (k : ∀ (r : Int) (N B' : Mem), Inv N B' → Q r r N) : w_S_sink M h q w (fun r M1 => w_m_sink M1 h q w (fun r2 M2 => Q r r2 M2)) := by
  obtain ⟨hC, hM, hR, hW, hS, hCC, hCM⟩ := id I
  have hho := b_houses hR 0
  have hsh := b_shakes hR 0
  have hcr := b_hcol hR h
  unfold w_S_sink
  refine hasHouse_ok hC hh (fun e => ?_) (fun h0 h1 => ?_)
  · (first | refine t0n ?_ | refine t0e ?_)
    unfold w_m_sink
    refine m_isHouse_ok hM hh (fun _ => ?_) (fun a b => absurd ⟨a, b⟩ e)
    (first | refine t0n ?_ | refine t0e ?_)
    exact k _ _ _ I
  (first | refine t1n ?_ | refine t1e ?_)
  refine hasShake_ok hC hq (fun e => ?_) (fun q0 q1 => ?_)
  · (first | refine t0n ?_ | refine t0e ?_)
    unfold w_m_sink
    refine m_isHouse_ok hM hh (fun e => absurd ⟨h0, h1⟩ e) (fun _ _ => ?_)
    (first | refine t1n ?_ | refine t1e ?_)
    refine m_isShake_ok hM hq (fun _ => ?_) (fun a b => absurd ⟨a, b⟩ e)
    (first | refine t0n ?_ | refine t0e ?_)
    exact k _ _ _ I
  (first | refine t1n ?_ | refine t1e ?_)
  refine S_beyond_ok hw (by decide) (by decide) (fun e => ?_) (fun w0 w1 => ?_)
  · (first | refine t1n ?_ | refine t1e ?_)
    unfold w_m_sink
    refine m_isHouse_ok hM hh (fun e => absurd ⟨h0, h1⟩ e) (fun _ _ => ?_)
    (first | refine t1n ?_ | refine t1e ?_)
    refine m_isShake_ok hM hq (fun e => absurd ⟨q0, q1⟩ e) (fun _ _ => ?_)
    (first | refine t1n ?_ | refine t1e ?_)
    refine ⟨hw, m_in_ok hw (by decide) (by decide) (fun _ => ?_) (fun a b => absurd e (by omega))⟩
    (first | refine t0n ?_ | refine t0e ?_)
    exact k _ _ _ I
  (first | refine t0n ?_ | refine t0e ?_)
  have c0 : 0 ≤ B 24 h := hcr.1
  have c6 : B 24 h < 6 := by omega
  refine ⟨hw, fun e2 => ?_, fun e2 => ?_⟩
  · have mod : ∀ (N : Mem) (r : Int), Inv N B → (nK B (B 24 h) = 0 → r = -1005) → (nK B (B 24 h) ≠ 0 → (w = 0 → isMn (allK B (B 24 h) (kept B (B 24 h))) (xH B (B 24 h) q (B 25 h)) r) ∧ (w ≠ 0 → isMx (allK B (B 24 h) (kept B (B 24 h))) (xH B (B 24 h) q (B 25 h)) r)) → w_m_sink N h q w (fun r2 M2 => Q r r2 M2) := by
      intro N r IN r0 r1
      unfold w_m_sink
      refine m_isHouse_ok IN.2.1 hh (fun e => absurd ⟨h0, h1⟩ e) (fun _ _ => ?_)
      (first | refine t1n ?_ | refine t1e ?_)
      refine m_isShake_ok IN.2.1 hq (fun e => absurd ⟨q0, q1⟩ e) (fun _ _ => ?_)
      (first | refine t1n ?_ | refine t1e ?_)
      refine ⟨hw, m_in_ok hw (by decide) (by decide) (fun e => absurd e (by omega)) (fun _ _ => ?_)⟩
      (first | refine t1n ?_ | refine t1e ?_)
      refine ⟨hw, fun _ => ?_, fun z => absurd z e2⟩
      refine m_goHouse_ok IN h0 (by omega) q0 (by omega) rfl (fun O o1 o2 => ?_) (fun O o1 o2 o3 => ?_)
      · (first | refine t0n ?_ | refine t0e ?_)
        rw [r0 o2]
        exact k _ _ _ o1
      · (first | refine t1n ?_ | refine t1e ?_)
        have r1 := r1 o2
        have ex := (allK_some (P := kept B (B 24 h)) hR hW c0 c6).mp o2
        refine ⟨hw, fun hz => ?_, fun hz => ?_⟩
        · (intro g eg _ _; have eg : g = O 12 38 := eg)
          rcases o3.2.2 with ⟨n1, _⟩ | ⟨_, _, n2⟩
          · obtain ⟨p, hp⟩ := ex
            exact absurd hp (n1 p)
          · rw [eg, (r1.2 hz).uni n2]
            exact k _ _ _ o1
        · (intro g eg _ _; have eg : g = O 12 37 := eg)
          rcases o3.2.2 with ⟨n1, _⟩ | ⟨_, n2, _⟩
          · obtain ⟨p, hp⟩ := ex
            exact absurd hp (n1 p)
          · rw [eg, (r1.1 hz).uni n2]
            exact k _ _ _ o1
    refine surveyHouse_ok I h0 (by omega) q0 (by omega) (fun N IN v => ?_)
    obtain ⟨v1, v2, v3, v4, v5, v6⟩ := v
    have v1 : N 9 0 = nK B (B 24 h) := v1
    (intro a ea _ _; have ea : a = N 9 0 := ea)
    rw [v1] at ea
    subst ea
    refine ⟨fun hz => ⟨hw, fun hy => ?_, fun hy => ?_⟩, fun hz => mod N _ IN (fun _ => rfl) (fun z => absurd hz z)⟩
    · (intro g eg _ _; have eg : g = N 9 5 := eg)
      refine mod N _ IN (fun z => absurd z hz) (fun _ => ⟨fun z => absurd z hy, fun _ => ?_⟩)
      rw [eg]
      exact (v5 ((allK_some hR hW c0 c6).mp hz)).2
    · (intro g eg _ _; have eg : g = N 9 4 := eg)
      refine mod N _ IN (fun z => absurd z hz) (fun _ => ⟨fun _ => ?_, fun z => absurd hy z⟩)
      rw [eg]
      exact (v5 ((allK_some hR hW c0 c6).mp hz)).1
  · refine firstSink_ok I h0 (by omega) q0 (by omega) (fun N n1 _ _ => ?_)
    unfold w_m_sink
    refine m_isHouse_ok n1.2.1 hh (fun e => absurd ⟨h0, h1⟩ e) (fun _ _ => ?_)
    (first | refine t1n ?_ | refine t1e ?_)
    refine m_isShake_ok n1.2.1 hq (fun e => absurd ⟨q0, q1⟩ e) (fun _ _ => ?_)
    (first | refine t1n ?_ | refine t1e ?_)
    refine ⟨hw, m_in_ok hw (by decide) (by decide) (fun e => absurd e (by omega)) (fun _ _ => ?_)⟩
    (first | refine t1n ?_ | refine t1e ?_)
    refine ⟨hw, fun z => absurd e2 z, fun _ => ?_⟩
    exact m_firstSink_ok n1 h0 (by omega) q0 (by omega) (fun N2 n2 _ => k _ _ _ n2)
theorem both_sunk {M B : Mem} {h q w : Int} {Q : Int → Int → Mem → Prop} (I : Inv M B) (hh : R32 h) (hq : R32 q) (hw : R32 w) (k : ∀ (r : Int) (N B' : Mem), Inv N B' → Q r r N) : w_S_sunk M h q w (fun r M1 => w_m_sunk M1 h q w (fun r2 M2 => Q r r2 M2)) := by
  obtain ⟨hC, hM, hR, hW, hS, hCC, hCM⟩ := id I
  have hho := b_houses hR 0
  have hsh := b_shakes hR 0
  have hcr := b_hcol hR h
  unfold w_S_sunk
  refine hasHouse_ok hC hh (fun e => ?_) (fun h0 h1 => ?_)
  · (first | refine t0n ?_ | refine t0e ?_)
    unfold w_m_sunk
    refine m_isHouse_ok hM hh (fun _ => ?_) (fun a b => absurd ⟨a, b⟩ e)
    (first | refine t0n ?_ | refine t0e ?_)
    exact k _ _ _ I
  (first | refine t1n ?_ | refine t1e ?_)
  refine hasShake_ok hC hq (fun e => ?_) (fun q0 q1 => ?_)
  · (first | refine t0n ?_ | refine t0e ?_)
    unfold w_m_sunk
    refine m_isHouse_ok hM hh (fun e => absurd ⟨h0, h1⟩ e) (fun _ _ => ?_)
    (first | refine t1n ?_ | refine t1e ?_)
    refine m_isShake_ok hM hq (fun _ => ?_) (fun a b => absurd ⟨a, b⟩ e)
    (first | refine t0n ?_ | refine t0e ?_)
    exact k _ _ _ I
  (first | refine t1n ?_ | refine t1e ?_)
  refine S_beyond_ok hw (by decide) (by decide) (fun e => ?_) (fun w0 w1 => ?_)
  · (first | refine t1n ?_ | refine t1e ?_)
    unfold w_m_sunk
    refine m_isHouse_ok hM hh (fun e => absurd ⟨h0, h1⟩ e) (fun _ _ => ?_)
    (first | refine t1n ?_ | refine t1e ?_)
    refine m_isShake_ok hM hq (fun e => absurd ⟨q0, q1⟩ e) (fun _ _ => ?_)
    (first | refine t1n ?_ | refine t1e ?_)
    refine ⟨hw, m_in_ok hw (by decide) (by decide) (fun _ => ?_) (fun a b => absurd e (by omega))⟩
    (first | refine t0n ?_ | refine t0e ?_)
    exact k _ _ _ I
  (first | refine t0n ?_ | refine t0e ?_)
  have c0 : 0 ≤ B 24 h := hcr.1
  have c6 : B 24 h < 6 := by omega
  have mod : ∀ (N : Mem) (r : Int), Inv N B → (nK B (B 24 h) = 0 → r = -1005) → (nK B (B 24 h) ≠ 0 → r = shr B (B 24 h) (B 10 23) (xH B (B 24 h) q (B 25 h)) w) → w_m_sunk N h q w (fun r2 M2 => Q r r2 M2) := by
    intro N r IN r0 r1
    unfold w_m_sunk
    refine m_isHouse_ok IN.2.1 hh (fun e => absurd ⟨h0, h1⟩ e) (fun _ _ => ?_)
    (first | refine t1n ?_ | refine t1e ?_)
    refine m_isShake_ok IN.2.1 hq (fun e => absurd ⟨q0, q1⟩ e) (fun _ _ => ?_)
    (first | refine t1n ?_ | refine t1e ?_)
    refine ⟨hw, m_in_ok hw (by decide) (by decide) (fun e => absurd e (by omega)) (fun _ _ => ?_)⟩
    (first | refine t1n ?_ | refine t1e ?_)
    refine m_goHouse_ok IN h0 (by omega) q0 (by omega) rfl (fun O o1 o2 => ?_) (fun O o1 o2 o3 => ?_)
    · (first | refine t0n ?_ | refine t0e ?_)
      rw [r0 o2]
      exact k _ _ _ o1
    · (first | refine t1n ?_ | refine t1e ?_)
      refine m_share_ok hR hW c0 c6 o3 o2 hw ?_
      rw [r1 o2]
      exact k _ _ _ o1
  refine surveyHouse_ok I h0 (by omega) q0 (by omega) (fun N IN v => ?_)
  (intro a ea _ _; have ea : a = N 9 0 := ea)
  rw [v.1] at ea
  subst ea
  exact ⟨fun hz => fraction_ok hR hW c0 c6 v hz hw (mod N _ IN (fun z => absurd z hz) (fun _ => rfl)), fun hz => mod N _ IN (fun _ => rfl) (fun z => absurd hz z)⟩
theorem both_floats {M B : Mem} {t q : Int} {Q : Int → Int → Mem → Prop} (I : Inv M B) (ht : R32 t) (hq : R32 q) (k : ∀ (r : Int) (N B' : Mem), Inv N B' → Q r r N) : w_S_floats M t q (fun r M1 => w_m_floats M1 t q (fun r2 M2 => Q r r2 M2)) := by
  obtain ⟨hC, hM, hR, hW, hS, hCC, hCM⟩ := id I
  have hta := b_tanks hR 0
  have hsh := b_shakes hR 0
  have htc := b_tcol hR t
  have htl := b_tlay hR t
  have htw := b_twei hR t
  have hts := b_tsiz hR t
  have hdr := hW.2.2.2.2.1
  have hdr0 := b_rule hR 20
  have hmul := mul_rng (a := B 31 t) (A := 99) hts hdr0
  unfold w_S_floats
  refine hasTank_ok hC ht (fun e => ?_) (fun t0 t1 => ?_)
  · (first | refine t0n ?_ | refine t0e ?_)
    unfold w_m_floats
    refine ⟨ht, ?_⟩
    (intro n en _ _; have en : n = M 12 43 := en)
    rw [m_tanks hM] at en
    refine m_in_ok ht (by decide) (by omega) (fun _ => ?_) (fun a b => absurd ⟨a, by omega⟩ e)
    (first | refine t0n ?_ | refine t0e ?_)
    exact k _ _ _ I
  (first | refine t1n ?_ | refine t1e ?_)
  refine hasShake_ok hC hq (fun e => ?_) (fun q0 q1 => ?_)
  · (first | refine t0n ?_ | refine t0e ?_)
    unfold w_m_floats
    refine ⟨ht, ?_⟩
    (intro n en _ _; have en : n = M 12 43 := en)
    rw [m_tanks hM] at en
    refine m_in_ok ht (by decide) (by omega) (fun z => absurd z (by omega)) (fun _ _ => ?_)
    (first | refine t1n ?_ | refine t1e ?_)
    refine m_isShake_ok hM hq (fun _ => ?_) (fun a b => absurd ⟨a, b⟩ e)
    (first | refine t0n ?_ | refine t0e ?_)
    exact k _ _ _ I
  (first | refine t1n ?_ | refine t1e ?_)
  have t8 : t < 8 := by omega
  have htl2 := hW.2.2.2.2.2.2.2.2.2.1 t t0 t1
  refine ⟨⟨t0, t8⟩, ?_⟩
  (intro cc ecc _ _; have ecc : cc = M 41 t := ecc)
  rw [c_tcol hC] at ecc
  refine ⟨⟨t0, t8⟩, ?_⟩
  (intro ll ell _ _; have ell : ll = M 42 t := ell)
  rw [c_tlay hC] at ell
  have hn := nly_i hR (B 28 t)
  obtain ⟨c, hc⟩ : ∃ n : Nat, B 28 t = n := ⟨(B 28 t).toNat, by omega⟩
  obtain ⟨l, hl⟩ : ∃ n : Nat, B 29 t = n := ⟨(B 29 t).toNat, by omega⟩
  rw [hc] at ecc htl2 hn
  rw [hl] at ell htl2
  subst ecc
  subst ell
  have c0 : (0 : Int) ≤ c := by omega
  have c6 : (c : Int) < 6 := by omega
  obtain ⟨f1, f2, f3, f4, f5, f6⟩ := w_facts (mk := 0) (x := xL B c q l) hR hW c0 c6
  have mod : ∀ (N : Mem) (r : Int), Inv N B → (nK B c = 0 → r = -1005) → (nK B c ≠ 0 → r = if nS B c 0 (xL B c q l) = 0 ∨ B 31 t * B 10 20 ≤ B 30 t then 0 else if nS B c 0 (xL B c q l) < nK B c then 1 else 2) → w_m_floats N t q (fun r2 M2 => Q r r2 M2) := by
    intro N r IN r0 r1
    unfold w_m_floats
    refine ⟨ht, ?_⟩
    (intro n en _ _; have en : n = N 12 43 := en)
    rw [m_tanks IN.2.1] at en
    refine m_in_ok ht (by decide) (by omega) (fun z => absurd z (by omega)) (fun _ _ => ?_)
    (first | refine t1n ?_ | refine t1e ?_)
    refine m_isShake_ok IN.2.1 hq (fun e => absurd ⟨q0, q1⟩ e) (fun _ _ => ?_)
    (first | refine t1n ?_ | refine t1e ?_)
    refine ⟨⟨t0, t8⟩, ?_⟩
    (intro c' ec' _ _; have ec' : c' = N 86 t := ec')
    rw [m_tcol IN.2.1, hc] at ec'
    subst ec'
    refine ⟨⟨t0, t8⟩, ?_⟩
    (intro l' el' _ _; have el' : l' = N 87 t := el')
    rw [m_tlay IN.2.1, hl] at el'
    subst el'
    refine m_goThrough_ok IN c0 c6 q0 (by omega) (by omega) (fun O o1 o2 => ?_) (fun O o1 o2 o3 => ?_)
    · (first | refine t0n ?_ | refine t0e ?_)
      rw [r0 o2]
      exact k _ _ _ o1
    · (first | refine t1n ?_ | refine t1e ?_)
      have r1 := r1 o2
      refine ⟨⟨t0, t8⟩, ?_⟩
      (intro u eu _ _; have eu : u = O 88 t := eu)
      rw [m_twei o1.2.1] at eu
      refine ⟨⟨t0, t8⟩, ?_⟩
      (intro v ev _ _; have ev : v = O 89 t := ev)
      rw [m_tsiz o1.2.1] at ev
      (intro d ed _ _; have ed : d = O 64 20 := ed)
      rw [m_rule o1.2.1] at ed
      rw [eu, ev, ed]
      refine ⟨by omega, fun e => ?_, fun e => ?_⟩
      · unfold w_m_floats_j0
        refine ⟨by decide, fun _ => ?_, fun z => absurd rfl z⟩
        rw [r1, if_pos (Or.inr e)]
        exact k _ _ _ o1
      · unfold w_m_floats_j0
        refine ⟨by decide, fun z => absurd z (by decide), fun _ => ?_⟩
        (intro s es _ _; have es : s = O 12 35 := es)
        rw [o3.1] at es
        have es : s = wV B c 0 (xL B c q l) := es
        refine ⟨fun z => ?_, fun z => ?_⟩
        · (intro s2 es2 _ _; have es2 : s2 = O 12 35 := es2)
          rw [o3.1] at es2
          have es2 : s2 = wV B c 0 (xL B c q l) := es2
          (intro a ea _ _; have ea : a = O 12 36 := ea)
          rw [o3.2.1] at ea
          have ea : a = wW B c := ea
          have hs0 : ¬ nS B c 0 (xL B c q l) = 0 := fun y => z (es.trans (f5.mp y))
          rw [if_neg (fun y => y.elim hs0 e)] at r1
          refine ⟨fun y => ?_, fun y => ?_⟩
          · rw [r1, if_neg (fun w => by have := f6.mp w; omega)]
            exact k _ _ _ o1
          · rw [r1, if_pos (f6.mpr (by omega))]
            exact k _ _ _ o1
        · rw [r1, if_pos (Or.inl (f5.mpr (es.symm.trans z)))]
          exact k _ _ _ o1
  refine surveyLayer_ok I (by omega) q0 (by omega) (by omega) (fun N IN v => ?_)
  obtain ⟨v1, v2, v3, v4, v5, v6⟩ := v
  have v1 : N 9 0 = nK B c := v1
  have v2 : N 9 1 = nS B c 0 (xL B c q l) := v2
  (intro a ea _ _; have ea : a = N 9 0 := ea)
  rw [v1] at ea
  subst ea
  refine ⟨fun hz => ?_, fun hz => mod N _ IN (fun _ => rfl) (fun z => absurd hz z)⟩
  (intro s es _ _; have es : s = N 9 1 := es)
  rw [v2] at es
  refine ⟨fun z => mod N _ IN (fun y => absurd y hz) (fun _ => by rw [if_pos (Or.inl (es.symm.trans z))]), fun z => ⟨⟨t0, t8⟩, ?_⟩⟩
  (intro u eu _ _; have eu : u = N 43 t := eu)
  rw [c_twei IN.1] at eu
  refine ⟨⟨t0, t8⟩, ?_⟩
  (intro y ey _ _; have ey : y = N 44 t := ey)
  rw [c_tsiz IN.1] at ey
  unfold w_Rules_dry
  (intro d ed _ _; have ed : d = N 30 20 := ed)
  rw [c_rule IN.1] at ed
  rw [eu, ey, ed]
  refine ⟨by omega, fun e => ?_, fun e => mod N _ IN (fun y => absurd y hz) (fun _ => by rw [if_pos (Or.inr (by omega))])⟩
  (intro s2 es2 _ _; have es2 : s2 = N 9 1 := es2)
  rw [v2] at es2
  (intro a2 ea2 _ _; have ea2 : a2 = N 9 0 := ea2)
  rw [v1] at ea2
  have hn0 : ¬ (nS B c 0 (xL B c q l) = 0 ∨ B 31 t * B 10 20 ≤ B 30 t) := fun y => y.elim (fun y => z (es.trans y)) (fun y => by omega)
  exact ⟨fun y => mod N _ IN (fun y => absurd y hz) (fun _ => by rw [if_neg hn0, if_neg (by omega)]), fun y => mod N _ IN (fun y => absurd y hz) (fun _ => by rw [if_neg hn0, if_pos (by omega)])⟩
