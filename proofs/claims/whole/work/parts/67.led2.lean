/-! ===== led, both sides ===== -/
theorem both_led {M B : Mem} {h q w : Int} {Q : Int → Int → Mem → Prop} (I : Inv M B) (hh : R32 h) (hq : R32 q) (hw : R32 w) (k : ∀ (r : Int) (N B' : Mem), Inv N B' → Q r r N) : w_S_led M h q w (fun r M1 => w_m_led M1 h q w (fun r2 M2 => Q r r2 M2)) := by
  obtain ⟨hC, hM, hR, hW, hS, hCC, hCM⟩ := id I
  have hho := b_houses hR 0
  have hsh := b_shakes hR 0
  have hmk := hW.2.2.2.2.2.2.1
  unfold w_S_led
  refine hasHouse_ok hC hh (fun e => ?_) (fun h0 h1 => ?_)
  · (first | refine t0n ?_ | refine t0e ?_)
    unfold w_m_led
    refine m_isHouse_ok hM hh (fun _ => ?_) (fun a b => absurd ⟨a, b⟩ e)
    (first | refine t0n ?_ | refine t0e ?_)
    exact k _ _ _ I
  (first | refine t1n ?_ | refine t1e ?_)
  refine hasShake_ok hC hq (fun e => ?_) (fun q0 q1 => ?_)
  · (first | refine t0n ?_ | refine t0e ?_)
    unfold w_m_led
    refine m_isHouse_ok hM hh (fun e => absurd ⟨h0, h1⟩ e) (fun _ _ => ?_)
    (first | refine t1n ?_ | refine t1e ?_)
    refine m_isShake_ok hM hq (fun _ => ?_) (fun a b => absurd ⟨a, b⟩ e)
    (first | refine t0n ?_ | refine t0e ?_)
    exact k _ _ _ I
  (first | refine t1n ?_ | refine t1e ?_)
  refine S_beyond_ok hw (by decide) (by decide) (fun e => ?_) (fun w0 w1 => ?_)
  · (first | refine t1n ?_ | refine t1e ?_)
    unfold w_m_led
    refine m_isHouse_ok hM hh (fun e => absurd ⟨h0, h1⟩ e) (fun _ _ => ?_)
    (first | refine t1n ?_ | refine t1e ?_)
    refine m_isShake_ok hM hq (fun e => absurd ⟨q0, q1⟩ e) (fun _ _ => ?_)
    (first | refine t1n ?_ | refine t1e ?_)
    refine ⟨hw, m_in_ok hw (by decide) (by decide) (fun _ => ?_) (fun a b => absurd e (by omega))⟩
    (first | refine t0n ?_ | refine t0e ?_)
    exact k _ _ _ I
  (first | refine t0n ?_ | refine t0e ?_)
  have hn := nly_i hR (B 24 h)
  have hwr := b_hwid hR h
  have r1 : 0 ≤ snk1 B h q ∧ snk1 B h q ≤ 3600 := by
    have := snk_rng (c := B 24 h) (P := fin B (B 24 h) q (fun _ => 0) 0 0) hR (B 25 h) (nly B (B 24 h))
    unfold snk1
    omega
  have mod : ∀ (N : Mem) (r : Int), Inv N B → (∀ O, Inv O B → PM O (fin B (B 24 h) q (fun _ => 0) 0 0) (nly B (B 24 h)) → (B 10 23 ≤ snk1 B h q → w_m_led_L0 (fun r2 M2 => Q r r2 M2) h w O 0 0) ∧ (¬ B 10 23 ≤ snk1 B h q → Q r (-1003) O)) → w_m_led N h q w (fun r2 M2 => Q r r2 M2) := by
    intro N r IN hO
    unfold w_m_led
    refine m_isHouse_ok IN.2.1 hh (fun e => absurd ⟨h0, h1⟩ e) (fun _ _ => ?_)
    (first | refine t1n ?_ | refine t1e ?_)
    refine m_isShake_ok IN.2.1 hq (fun e => absurd ⟨q0, q1⟩ e) (fun _ _ => ?_)
    (first | refine t1n ?_ | refine t1e ?_)
    refine ⟨hw, m_in_ok hw (by decide) (by decide) (fun e => absurd e (by omega)) (fun _ _ => ?_)⟩
    (first | refine t1n ?_ | refine t1e ?_)
    refine m_firstSink_ok IN h0 (by omega) q0 (by omega) (fun O o1 o2 => ?_)
    (intro a ea _ _; have ea : a = O 64 23 := ea)
    rw [m_rule o1.2.1] at ea
    rw [ea]
    exact ⟨by omega, hO O o1 o2⟩
  refine firstSink_ok I h0 (by omega) q0 (by omega) (fun N n1 n2 n3 => ?_)
  unfold w_Rules_mark
  (intro a ea _ _; have ea : a = N 30 23 := ea)
  rw [c_rule n1.1] at ea
  refine ⟨by omega, by omega, fun e => ⟨by omega, ?_⟩, fun e => mod N _ n1 (fun O o1 o2 => ⟨fun z => absurd z (by omega), fun _ => k _ _ _ o1⟩)⟩
  have hly : 0 < nly B (B 24 h) := by
    by_cases z : 0 < nly B (B 24 h)
    · exact z
    · have : snk1 B h q = 0 := by
        unfold snk1
        rw [(show nly B (B 24 h) = 0 by omega)]
        rfl
      omega
  have hg := gst_le (prt B (B 24 h) (fin B (B 24 h) q (fun _ => 0) 0 0) (B 25 h)) (nly B (B 24 h) - 1)
  (intro b eb _ _; have eb : b = N 39 h := eb)
  rw [c_hwid n1.1] at eb
  subst eb
  have ans : ∀ r : Int, r = (if w = 0 then ((gst (prt B (B 24 h) (fin B (B 24 h) q (fun _ => 0) 0 0) (B 25 h)) (nly B (B 24 h) - 1) : Nat) : Int) else (fin B (B 24 h) q (fun _ => 0) 0 0 (gst (prt B (B 24 h) (fin B (B 24 h) q (fun _ => 0) 0 0) (B 25 h)) (nly B (B 24 h) - 1))).2) → w_m_led N h q w (fun r2 M2 => Q r r2 M2) := by
    intro r er
    refine mod N r n1 (fun O o1 o2 => ⟨fun _ => ?_, fun z => absurd (by omega) z⟩)
    refine m_led_L0_ok o1.2.1 hR h0 (by omega) rfl o2 hly hw ?_
    rw [← er]
    exact k _ _ _ o1
  refine greatestPart_ok n2.b n3 (by omega) hly ⟨hw, fun e0 => ⟨by omega, ?_⟩, fun e0 => ans _ (by rw [if_pos e0])⟩
  (intro g eg _ _; have eg : g = N 15 (gst (prt B (B 24 h) (fin B (B 24 h) q (fun _ => 0) 0 0) (B 25 h)) (nly B (B 24 h) - 1) : Nat) := eg)
  rw [(n3 _ (by omega)).2] at eg
  exact ans g (by rw [if_neg e0]; exact eg)
