/-! ===== a house's sink ===== -/
/-- what a layer adds -/
def prt (B : Mem) (c : Int) (P : Nat → Int × Int) (w : Int) (k : Nat) : Int := if (P k).2 = -1 then 0 else max 0 (min (B 4 (c * 6 + k)) (2 * w - dep B c k)) * rlk B c k 3 / 100
def snk (B : Mem) (c : Int) (P : Nat → Int × Int) (w : Int) : Nat → Int
  | 0 => 0
  | k + 1 => snk B c P w k + prt B c P w k
section SINK
variable {M N B : Mem} {c : Int} {ch : Nat → Int} {P : Nat → Int × Int}
theorem prt_rng (hR : RB B) (w : Int) (k : Nat) : 0 ≤ prt B c P w k ∧ prt B c P w k ≤ 600 := by
  have h1 := b_thick hR (c * 6 + k)
  have h2 := rlk_rng hR c k 3
  have h3 := mul_rng (a := max 0 (min (B 4 (c * 6 + k)) (2 * w - dep B c k))) (A := 60) (by omega) h2
  unfold prt
  split <;> omega
theorem snk_rng (hR : RB B) (w : Int) : ∀ k : Nat, 0 ≤ snk B c P w k ∧ snk B c P w k ≤ 600 * k
  | 0 => by unfold snk; omega
  | k + 1 => by
    have := snk_rng hR w k
    have := prt_rng (c := c) (P := P) hR w k
    unfold snk
    omega
theorem partOf_ok {w : Int} {k : Nat} {Q : Int → Prop} (H : TrB M B c ch) (hp : PC M P (nly B c)) (hk : k < nly B c) (w0 : 0 ≤ w ∧ w ≤ 60) (kk : Q (prt B c P w k)) : w_Trial_partOf M k w Q := by
  have hR := H.hR
  have hn := nly_i hR c
  have c0 := H.c0
  have c6 := H.c6
  have h1 := b_thick hR (c * 6 + k)
  have h2 := rlk_rng hR c k 3
  have h4 := dep_rng hR c k
  unfold w_Trial_partOf
  refine ⟨by omega, ?_⟩
  (intro g eg _ _; have eg : g = M 15 k := eg)
  rw [(hp k hk).2] at eg
  unfold prt at kk
  refine ⟨fun h => ?_, fun h => by rw [if_pos (by omega)] at kk; exact kk⟩
  rw [if_neg (by omega)] at kk
  (intro a ea _ _; have ea : a = M 1 9 := ea)
  rw [H.col] at ea
  subst ea
  refine ⟨by omega, ?_⟩
  (intro t et _ _; have et : t = M 23 (a * 6 + k) := et)
  rw [c_thick H.hC] at et
  (intro b eb _ _; have eb : b = M 1 9 := eb)
  rw [H.col] at eb
  subst eb
  refine depthOf_ok H.hC c0 c6 k (by omega) ⟨by omega, by omega, ?_⟩
  refine ruleOf_ok H hk (by decide) (by decide) ?_
  have h3 := mul_rng (a := max 0 (min (B 4 (b * 6 + k)) (2 * w - dep B b k))) (A := 60) (by omega) h2
  rw [et]
  exact ⟨by omega, kk⟩
theorem sinkOf_ok {w : Int} {Q : Int → Prop} (H : TrB M B c ch) (hp : PC M P (nly B c)) (w0 : 0 ≤ w ∧ w ≤ 60) (kk : Q (snk B c P w (nly B c))) : w_Trial_sinkOf M w Q := by
  have hn := nly_i H.hR c
  unfold w_Trial_sinkOf w_Trial_sinkOf_L0
  intro X hX
  have key : ∀ (d i : Nat), i + d = nly B c → X (snk B c P w i) i := by
    intro d
    induction d with
    | zero =>
      intro i hi
      apply hX
      unfold w_Trial_sinkOf_B0
      (intro a ea _ _; have ea : a = M 1 10 := ea)
      rw [H.lay] at ea
      rw [Nat.add_zero] at hi
      refine ⟨by omega, fun _ => by rw [hi]; exact kk, fun h => absurd h (by omega)⟩
    | succ d ih =>
      intro i hi
      apply hX
      unfold w_Trial_sinkOf_B0
      (intro a ea _ _; have ea : a = M 1 10 := ea)
      rw [H.lay] at ea
      refine ⟨by omega, fun h => absurd h (by omega), fun _ => ?_⟩
      exact partOf_ok H hp (by omega) w0 (ih (i + 1) (by omega))
  exact key (nly B c) 0 (by omega)
theorem m_part_ok {h : Int} {k : Nat} {Q : Int → Prop} (hM : MB M B) (hR : RB B) (h0 : 0 ≤ h) (h8 : h < 8) (hc : B 24 h = c) (hp : PM M P (nly B c)) (hk : k < nly B c) (kk : Q (prt B c P (B 25 h) k)) : w_m_part M h k Q := by
  have hn := nly_i hR c
  have hcr := b_hcol hR h
  have h1 := b_thick hR (c * 6 + k)
  have h2 := rlk_rng hR c k 3
  have h4 := dep_rng hR c k
  have hkd := b_kind hR (c * 6 + k)
  have h3 := mul_rng (a := max 0 (min (B 4 (c * 6 + k)) (2 * B 25 h - dep B c k))) (A := 60) (by omega) h2
  unfold prt at kk
  have J : ∀ z : Int, z = min (dep B c k + B 4 (c * 6 + k)) (2 * B 25 h) → w_m_part_j0 Q k c (dep B c k) z M := by
    intro z ez
    unfold w_m_part_j0
    refine ⟨by omega, ?_⟩
    (intro g eg _ _; have eg : g = M 70 k := eg)
    rw [(hp k hk).2] at eg
    have hwd := b_hwid hR h
    refine ⟨fun e => by rw [if_pos (by omega)] at kk; exact kk, fun e => ⟨by omega, by omega, fun e2 => ⟨by omega, ?_⟩, fun e2 => ?_⟩⟩
    · rw [if_neg (by omega)] at kk
      (intro a ea _ _; have ea : a = M 56 (6 * c + k) := ea)
      rw [m_kind hM, Int.mul_comm 6 c] at ea
      (intro r er _ _; have er : r = M 64 (5 * a + 3) := er)
      rw [m_rule hM, ea, Int.mul_comm 5] at er
      have er : r = rlk B c k 3 := er
      rw [er, (show z - dep B c k = max 0 (min (B 4 (c * 6 + k)) (2 * B 25 h - dep B c k)) by omega)]
      exact ⟨by omega, kk⟩
    · rw [if_neg (by omega), (show max 0 (min (B 4 (c * 6 + k)) (2 * B 25 h - dep B c k)) = 0 by omega), Int.zero_mul] at kk
      exact kk
  unfold w_m_part
  refine ⟨⟨h0, h8⟩, ?_⟩
  (intro a ea _ _; have ea : a = M 83 h := ea)
  rw [m_hcol hM, hc] at ea
  subst ea
  refine m_depth_ok hM (by omega) (by omega) k (by omega) ⟨by omega, ?_⟩
  (intro t et _ _; have et : t = M 57 (6 * a + k) := et)
  rw [m_thick hM, Int.mul_comm 6 a] at et
  refine ⟨⟨h0, h8⟩, ?_⟩
  (intro w ew _ _; have ew : w = M 84 h := ew)
  rw [m_hwid hM] at ew
  refine ⟨by omega, fun e => J _ (by omega), fun e => ⟨⟨h0, h8⟩, ?_⟩⟩
  (intro w2 ew2 _ _; have ew2 : w2 = M 84 h := ew2)
  rw [m_hwid hM] at ew2
  exact J _ (by omega)
theorem m_sinkOf_ok {h : Int} {Q : Int → Prop} (hM : MB M B) (hR : RB B) (h0 : 0 ≤ h) (h8 : h < 8) (hc : B 24 h = c) (hp : PM M P (nly B c)) (kk : Q (snk B c P (B 25 h) (nly B c))) : w_m_sinkOf M h Q := by
  have hn := nly_i hR c
  have hcr := b_hcol hR h
  unfold w_m_sinkOf w_m_sinkOf_L0
  intro X hX
  have key : ∀ (d i : Nat), i + d = nly B c → X (snk B c P (B 25 h) i) i := by
    intro d
    induction d with
    | zero =>
      intro i hi
      apply hX
      unfold w_m_sinkOf_B0
      refine ⟨⟨h0, h8⟩, ?_⟩
      (intro a ea _ _; have ea : a = M 83 h := ea)
      rw [m_hcol hM, hc] at ea
      subst ea
      (intro b eb _ _; have eb : b = M 55 a := eb)
      rw [m_layers hM] at eb
      rw [Nat.add_zero] at hi
      refine ⟨by omega, fun _ => by rw [hi]; exact kk, fun h => absurd h (by omega)⟩
    | succ d ih =>
      intro i hi
      apply hX
      unfold w_m_sinkOf_B0
      refine ⟨⟨h0, h8⟩, ?_⟩
      (intro a ea _ _; have ea : a = M 83 h := ea)
      rw [m_hcol hM, hc] at ea
      subst ea
      (intro b eb _ _; have eb : b = M 55 a := eb)
      rw [m_layers hM] at eb
      refine ⟨by omega, fun h => absurd h (by omega), fun _ => ?_⟩
      exact m_part_ok hM hR h0 h8 hc hp (by omega) (ih (i + 1) (by omega))
  exact key (nly B c) 0 (by omega)
end SINK
