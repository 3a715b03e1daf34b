/-! ===== led ===== -/
/-- the layer that adds most among the first n + 1 -/
def gst (f : Nat → Int) : Nat → Nat
  | 0 => 0
  | n + 1 => if f (n + 1) ≤ f (gst f n) then gst f n else n + 1
theorem gst_le (f : Nat → Int) : ∀ n, gst f n ≤ n
  | 0 => Nat.le_refl _
  | n + 1 => by
    have := gst_le f n
    unfold gst
    split <;> omega
theorem greatestPart_ok {M B : Mem} {c w : Int} {ch : Nat → Int} {P : Nat → Int × Int} {Q : Int → Prop} (H : TrB M B c ch) (hp : PC M P (nly B c)) (w0 : 0 ≤ w ∧ w ≤ 60) (h1 : 0 < nly B c) (kk : Q (gst (prt B c P w) (nly B c - 1) : Nat)) : w_Trial_greatestPart M w Q := by
  have hR := H.hR
  have hn := nly_i hR c
  unfold w_Trial_greatestPart w_Trial_greatestPart_L0
  intro X hX
  have key : ∀ (d i : Nat), i + 1 + d = nly B c → X (gst (prt B c P w) i : Nat) (i + 1 : Nat) := by
    intro d
    induction d with
    | zero =>
      intro i hi
      apply hX
      unfold w_Trial_greatestPart_B0
      (intro a ea _ _; have ea : a = M 1 10 := ea)
      rw [H.lay] at ea
      rw [(show nly B c - 1 = i by omega)] at kk
      exact ⟨by omega, fun _ => kk, fun h => absurd h (by omega)⟩
    | succ d ih =>
      intro i hi
      have hg := gst_le (prt B c P w) i
      have r1 := prt_rng (c := c) (P := P) hR w (i + 1)
      have r2 := prt_rng (c := c) (P := P) hR w (gst (prt B c P w) i)
      have st := ih (i + 1) (by omega)
      apply hX
      unfold w_Trial_greatestPart_B0
      (intro a ea _ _; have ea : a = M 1 10 := ea)
      rw [H.lay] at ea
      refine ⟨by omega, fun h => absurd h (by omega), fun _ => ?_⟩
      refine partOf_ok H hp (by omega) w0 (partOf_ok H hp (by omega) w0 ⟨by omega, by omega, fun h => ?_, fun h => ?_⟩)
      · have e : gst (prt B c P w) (i + 1) = gst (prt B c P w) i := if_pos h
        rw [e] at st
        exact st
      · have e : gst (prt B c P w) (i + 1) = i + 1 := if_neg h
        rw [e] at st
        exact st
  exact key (nly B c - 1) 0 (by omega)
theorem m_led_L0_ok {M B : Mem} {h w c : Int} {P : Nat → Int × Int} {Q : Int → Mem → Prop} (hM : MB M B) (hR : RB B) (h0 : 0 ≤ h) (h8 : h < 8) (hc : B 24 h = c) (hp : PM M P (nly B c)) (h1 : 0 < nly B c) (hw : R32 w)
    (kk : Q (if w = 0 then (gst (prt B c P (B 25 h)) (nly B c - 1) : Nat) else (P (gst (prt B c P (B 25 h)) (nly B c - 1))).2) M) : w_m_led_L0 Q h w M 0 0 := by
  have hn := nly_i hR c
  have hcr := b_hcol hR h
  unfold w_m_led_L0
  intro X hX
  have key : ∀ (d i : Nat), i + 1 + d = nly B c → X (gst (prt B c P (B 25 h)) i : Nat) (i + 1 : Nat) := by
    intro d
    induction d with
    | zero =>
      intro i hi
      have hg := gst_le (prt B c P (B 25 h)) i
      apply hX
      unfold w_m_led_B0
      refine ⟨⟨h0, h8⟩, ?_⟩
      (intro a ea _ _; have ea : a = M 83 h := ea)
      rw [m_hcol hM, hc] at ea
      subst ea
      (intro b eb _ _; have eb : b = M 55 a := eb)
      rw [m_layers hM] at eb
      rw [(show nly B a - 1 = i by omega)] at kk
      refine ⟨by omega, fun _ => ⟨hw, fun e => ⟨by omega, ?_⟩, fun e => by rw [if_pos e] at kk; exact kk⟩, fun h => absurd h (by omega)⟩
      rw [if_neg e] at kk
      (intro g eg _ _; have eg : g = M 70 (gst (prt B a P (B 25 h)) i : Nat) := eg)
      rw [(hp _ (by omega)).2] at eg
      rw [eg]
      exact kk
    | succ d ih =>
      intro i hi
      have hg := gst_le (prt B c P (B 25 h)) i
      have r1 := prt_rng (c := c) (P := P) hR (B 25 h) (i + 1)
      have r2 := prt_rng (c := c) (P := P) hR (B 25 h) (gst (prt B c P (B 25 h)) i)
      have st := ih (i + 1) (by omega)
      apply hX
      unfold w_m_led_B0
      refine ⟨⟨h0, h8⟩, ?_⟩
      (intro a ea _ _; have ea : a = M 83 h := ea)
      rw [m_hcol hM, hc] at ea
      subst ea
      (intro b eb _ _; have eb : b = M 55 a := eb)
      rw [m_layers hM] at eb
      refine ⟨by omega, fun h => absurd h (by omega), fun _ => ?_⟩
      refine m_part_ok hM hR h0 h8 hc hp (by omega) (m_part_ok hM hR h0 h8 hc hp (by omega) ⟨by omega, by omega, fun h => ?_, fun h => ?_⟩)
      · have e : gst (prt B a P (B 25 _)) (i + 1) = gst (prt B a P (B 25 _)) i := if_pos h
        rw [e] at st
        exact st
      · have e : gst (prt B a P (B 25 _)) (i + 1) = i + 1 := if_neg h
        rw [e] at st
        exact st
  -- the topmost against itself
  apply hX
  unfold w_m_led_B0
  refine ⟨⟨h0, h8⟩, ?_⟩
  (intro a ea _ _; have ea : a = M 83 h := ea)
  rw [m_hcol hM, hc] at ea
  subst ea
  (intro b eb _ _; have eb : b = M 55 a := eb)
  rw [m_layers hM] at eb
  have r0 := prt_rng (c := a) (P := P) hR (B 25 h) 0
  have st := key (nly B a - 1) 0 (by omega)
  refine ⟨by decide, fun h => absurd h (by omega), fun _ => ?_⟩
  refine m_part_ok (k := 0) hM hR h0 h8 hc hp h1 (m_part_ok (k := 0) hM hR h0 h8 hc hp h1 ⟨by omega, by omega, fun _ => st, fun e => absurd (Int.le_refl _) e⟩)
