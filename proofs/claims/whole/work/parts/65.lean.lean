/-! ===== the sink by the first choice; lean ===== -/
/-- the sink by the first choice -/
def snk1 (B : Mem) (h q : Int) : Int := snk B (B 24 h) (fin B (B 24 h) q (fun _ => 0) 0 0) (B 25 h) (nly B (B 24 h))
theorem firstSink_ok {M B : Mem} {h q : Int} {Q : Int → Mem → Prop} (I : Inv M B) (h0 : 0 ≤ h) (h8 : h < 8) (q0 : 0 ≤ q) (q6 : q < 6)
    (kk : ∀ N, Inv N B → TrU N B (B 24 h) q (fun _ => 0) 0 0 → PC N (fin B (B 24 h) q (fun _ => 0) 0 0) (nly B (B 24 h)) → Q (snk1 B h q) N) : w_S_firstSink M h q Q := by
  obtain ⟨hC, hM, hR, hW, hS, hCC, hCM⟩ := id I
  have hcr := b_hcol hR h
  have hwr := b_hwid hR h
  unfold w_S_firstSink
  refine ⟨⟨h0, h8⟩, ?_⟩
  (intro a ea _ _; have ea : a = M 38 h := ea)
  rw [c_hcol hC] at ea
  subst ea
  refine runFirst_ok hC hR hW (by omega) (by omega) q0 q6 (fun N n1 n2 n3 => ⟨⟨h0, h8⟩, ?_⟩)
  (intro w ew _ _; have ew : w = N 39 h := ew)
  rw [c_hwid n1.b.hC] at ew
  refine sinkOf_ok n1.b n2 (by omega) ?_
  rw [ew]
  exact kk N (I.ag n3.ag) n1 n2
theorem m_firstSink_ok {M B : Mem} {h q : Int} {Q : Int → Mem → Prop} (I : Inv M B) (h0 : 0 ≤ h) (h8 : h < 8) (q0 : 0 ≤ q) (q6 : q < 6)
    (kk : ∀ N, Inv N B → PM N (fin B (B 24 h) q (fun _ => 0) 0 0) (nly B (B 24 h)) → Q (snk1 B h q) N) : w_m_firstSink M h q Q := by
  obtain ⟨hC, hM, hR, hW, hS, hCC, hCM⟩ := id I
  have hcr := b_hcol hR h
  unfold w_m_firstSink
  refine m_plain_ok (fun M0 p1 p2 p3 p4 => ⟨⟨h0, h8⟩, ?_⟩)
  have f0 : FrM M M0 := ⟨fun h _ _ _ _ _ _ _ e => p3 h e, fun k a b _ => p4 k a b⟩
  have I0 := I.ag f0.ag
  (intro a ea _ _; have ea : a = M0 83 h := ea)
  rw [m_hcol I0.2.1] at ea
  subst ea
  refine m_choose_ok I0.2.1 hR hW (by omega) (by omega) (by decide) (by decide) (fun N n1 n2 n3 => ⟨⟨h0, h8⟩, ?_⟩)
  have IN := I0.ag n3.ag
  (intro b eb _ _; have eb : b = N 83 h := eb)
  rw [m_hcol IN.2.1] at eb
  subst eb
  rw [dig_first] at n1
  refine m_runOf_ok (mo := 0) (le := 0) ⟨IN.2.1, hR, hW, by omega, by omega, q0, q6, n1, by rw [n3.2 _ (by decide)]; exact p1, by rw [n3.2 _ (by decide)]; exact p2, by decide, by decide⟩ (fun O o1 o2 => ?_)
  have IX := IN.ag o2.ag
  exact m_sinkOf_ok IX.2.1 hR h0 h8 rfl o1 (kk O IX o1)
theorem both_lean {M B : Mem} {h g q : Int} {Q : Int → Int → Mem → Prop} (I : Inv M B) (hh : R32 h) (hg : R32 g) (hq : R32 q) (k : ∀ (r : Int) (N B' : Mem), Inv N B' → Q r r N) : w_S_lean M h g q (fun r M1 => w_m_lean M1 h g q (fun r2 M2 => Q r r2 M2)) := by
  obtain ⟨hC, hM, hR, hW, hS, hCC, hCM⟩ := id I
  have hho := b_houses hR 0
  have hsh := b_shakes hR 0
  unfold w_S_lean
  refine hasHouse_ok hC hh (fun e => ?_) (fun h0 h1 => ?_)
  · (first | refine t0n ?_ | refine t0e ?_)
    unfold w_m_lean
    refine m_isHouse_ok hM hh (fun _ => ?_) (fun a b => absurd ⟨a, b⟩ e)
    (first | refine t0n ?_ | refine t0e ?_)
    exact k _ _ _ I
  (first | refine t1n ?_ | refine t1e ?_)
  refine hasHouse_ok hC hg (fun e => ?_) (fun g0 g1 => ?_)
  · (first | refine t0n ?_ | refine t0e ?_)
    unfold w_m_lean
    refine m_isHouse_ok hM hh (fun e => absurd ⟨h0, h1⟩ e) (fun _ _ => ?_)
    (first | refine t1n ?_ | refine t1e ?_)
    refine m_isHouse_ok hM hg (fun _ => ?_) (fun a b => absurd ⟨a, b⟩ e)
    (first | refine t0n ?_ | refine t0e ?_)
    exact k _ _ _ I
  (first | refine t1n ?_ | refine t1e ?_)
  refine hasShake_ok hC hq (fun e => ?_) (fun q0 q1 => ?_)
  · (first | refine t0n ?_ | refine t0e ?_)
    unfold w_m_lean
    refine m_isHouse_ok hM hh (fun e => absurd ⟨h0, h1⟩ e) (fun _ _ => ?_)
    (first | refine t1n ?_ | refine t1e ?_)
    refine m_isHouse_ok hM hg (fun e => absurd ⟨g0, g1⟩ e) (fun _ _ => ?_)
    (first | refine t1n ?_ | refine t1e ?_)
    refine m_isShake_ok hM hq (fun _ => ?_) (fun a b => absurd ⟨a, b⟩ e)
    (first | refine t0n ?_ | refine t0e ?_)
    exact k _ _ _ I
  (first | refine t1n ?_ | refine t1e ?_)
  have r1 : 0 ≤ snk1 B h q ∧ snk1 B h q ≤ 3600 := by
    have := snk_rng (c := B 24 h) (P := fin B (B 24 h) q (fun _ => 0) 0 0) hR (B 25 h) (nly B (B 24 h))
    have := nly_i hR (B 24 h)
    unfold snk1
    omega
  have r2 : 0 ≤ snk1 B g q ∧ snk1 B g q ≤ 3600 := by
    have := snk_rng (c := B 24 g) (P := fin B (B 24 g) q (fun _ => 0) 0 0) hR (B 25 g) (nly B (B 24 g))
    have := nly_i hR (B 24 g)
    unfold snk1
    omega
  refine firstSink_ok I h0 (by omega) q0 (by omega) (fun N n1 _ _ => ?_)
  refine firstSink_ok n1 g0 (by omega) q0 (by omega) (fun N2 n2 _ _ => ⟨by omega, ?_⟩)
  unfold w_m_lean
  refine m_isHouse_ok n2.2.1 hh (fun e => absurd ⟨h0, h1⟩ e) (fun _ _ => ?_)
  (first | refine t1n ?_ | refine t1e ?_)
  refine m_isHouse_ok n2.2.1 hg (fun e => absurd ⟨g0, g1⟩ e) (fun _ _ => ?_)
  (first | refine t1n ?_ | refine t1e ?_)
  refine m_isShake_ok n2.2.1 hq (fun e => absurd ⟨q0, q1⟩ e) (fun _ _ => ?_)
  (first | refine t1n ?_ | refine t1e ?_)
  refine m_firstSink_ok n2 h0 (by omega) q0 (by omega) (fun N3 n3 _ => ?_)
  refine m_firstSink_ok n3 g0 (by omega) q0 (by omega) (fun N4 n4 _ => ⟨by omega, fun e => ?_, fun e => ?_⟩)
  · rw [if_pos e]; exact k _ _ _ n4
  · rw [if_neg e]; exact k _ _ _ n4
