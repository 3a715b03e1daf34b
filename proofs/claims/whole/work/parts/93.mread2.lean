/-! ===== the model reads: clauses ===== -/
section MREAD2
variable {M N B : Mem} {fa : Int} {D : Int → Int} {p : Nat}
theorem m_readRule_ok {s : Nat} {Q : Int → Mem → Prop} (hR : RB B) (H : MS N M B p fa D) (hp : (p : Int) ≤ B 38 0) (hs : s < 25)
    (k0 : (rul B p s D).1 = 0 → ∀ N', MS N' M B (rul B p s D).2.2.1 fa (rul B p s D).2.2.2 → Q 0 N')
    (k1 : (rul B p s D).1 ≠ 0 → ∀ N', MS N' M B (rul B p s D).2.2.1 (rul B p s D).2.1 D → Q (rul B p s D).1 N') : w_m_readRule N s Q := by
  have hb := bdS s hs
  unfold w_m_readRule
  refine m_leastOf_ok (by omega) (m_mostOf_ok (by omega) (by omega) ?_)
  refine m_readNumber_ok hR H hp (by omega) (by omega) (fun e N1 H1 hn => ?_) (fun e N1 H1 => ?_)
  · have hv := numV_in e
    rw [rul_y e] at k0
    refine ⟨by decide, fun z => absurd rfl z, fun _ => ?_⟩
    (intro v ev _ _; have ev : v = N1 12 65 := ev)
    rw [hn] at ev
    unfold w_m_readRule_j0
    refine ⟨⟨by omega, by omega⟩, ?_⟩
    (intro N2 eN2; subst eN2)
    rw [ev]
    exact k0 rfl _ H1.dr
  · have hi := numF_is B p (loS s) (hiS s)
    rw [rul_n e] at k1
    refine ⟨by omega, fun _ => ⟨by omega, ?_⟩, fun z => absurd z e⟩
    intro v ev v0 v1
    have ev : v = D s := ev.trans (H1.2.2.1 s (by omega) (by omega))
    unfold w_m_readRule_j0
    refine ⟨⟨by omega, by omega⟩, ?_⟩
    (intro N2 eN2; subst eN2)
    refine k1 e _ (H1.dr.cg (fun j a b => ?_))
    unfold putD
    by_cases z : j = s
    · rw [if_pos z, z, ev]
    · rw [if_neg z]
theorem letters {s i : Nat} (h : i < we B s - s) : 97 ≤ B 37 ((s + i : Nat) : Int) ∧ B 37 ((s + i : Nat) : Int) ≤ 122 := sc_in (B := B) (lo := 97) (hi := 122) (p := s) (by omega) (by show s + i < we B s; omega)
theorem hr_ltr {q : Nat} : (97 ≤ hr B q ∧ hr B q ≤ 122) ↔ ltr B q := by
  unfold hr
  by_cases z : (q : Int) < B 38 0
  · rw [if_pos z]; exact ⟨fun h => ⟨z, h⟩, fun h => h.2⟩
  · rw [if_neg z]; exact ⟨fun h => absurd h.1 (by decide), fun h => absurd h.1 z⟩
theorem m_readKind_ok {Q : Int → Mem → Prop} (hR : RB B) (H : MS N M B p fa D) (hp : (p : Int) ≤ B 38 0) (hD : okDr D)
    (k0 : (knd B p D).1 = 0 → ∀ (N' : Mem) (a : Nat), (a : Int) ≤ B 38 0 → endc B (knd B p D) = endc B (0, 0, a, (knd B p D).2.2.2) → MS N' M B a fa (knd B p D).2.2.2 → Q 0 N')
    (k1 : (knd B p D).1 ≠ 0 → ∀ (N' : Mem) (a : Nat) (D' : Int → Int), (a : Int) ≤ B 38 0 → MS N' M B a (knd B p D).2.1 D' → Q (knd B p D).1 N') : w_m_readKind N Q := by
  have ht := b_tlen hR 0
  unfold w_m_readKind
  refine m_readNumber_ok hR H hp (by decide) (by decide) (fun e0 N1 H1 hn => ?_) (fun e0 N1 H1 => ?_)
  · have hE := numE_ok hR hp
    have hkd := numV_in e0
    have eK : knd B p D = kl B (numV B p) 6 0 (numE B p) D := if_pos e0
    rw [eK] at k0 k1
    generalize numV B p = kd at *
    generalize numE B p = p1 at *
    generalize hRes : kl B kd 6 0 p1 D = R at k0 k1
    obtain ⟨kn, rfl⟩ : ∃ n : Nat, kd = n := ⟨kd.toNat, by omega⟩
    (intro v ev _ _; have ev : v = N1 12 65 := ev)
    rw [hn] at ev
    subst ev
    refine ⟨by decide, fun z => absurd rfl z, fun _ => ?_⟩
    unfold w_m_readKind_L0
    intro X hX
    have key : ∀ (d i seen q : Nat) (N : Mem) (D : Int → Int), i + d = 6 → pc5 seen = i → seen < 32 → MS N M B q fa D → (q : Int) ≤ B 38 0 → okDr D → R = kl B kn d seen q D → X 0 seen 1 N := by
      intro d
      induction d with
      | zero =>
        intro i seen q N D hd hpc hse H hq hD r1
        have := pc5_le seen
        omega
      | succ d ih =>
        intro i seen q N D hd hpc hse H hq hD r1
        have hs : (sk B q : Int) ≤ B 38 0 := sk_L hq
        have hwe : (we B (sk B q) : Int) ≤ B 38 0 := we_L hs
        have hwi := wc_is (B := B) (sk B q) (we B (sk B q) - sk B q)
        apply hX
        unfold w_m_readKind_B0
        refine ⟨by decide, fun z => absurd z (by decide), fun _ => ?_⟩
        refine m_readWord_ok hR H hq (fun N2 H2 hw2 he2 => ?_)
        refine m_nameOf_ok hw2 (fun i hi => letters hi) ?_
        have F : ∀ x : Int, R.1 = x → R.2.1 = (sk B q : Nat) → x ≠ 0 → w_m_readKind_j1 Q x N2 := by
          intro x ex ep hx
          unfold w_m_readKind_j1
          (intro a ea _ _; have ea : a = N2 12 62 := ea)
          rw [H2.1] at ea
          refine m_fails_ok H2 (by omega) (fun N3 H3 => ?_)
          rw [ea, ← ep] at H3
          have := k1 (by rw [ex]; exact hx) N3 _ D hs H3
          rw [ex] at this
          exact this
        by_cases hb : 0 ≤ wc B (sk B q) (we B (sk B q) - sk B q) ∧ wc B (sk B q) (we B (sk B q) - sk B q) < 5
        · obtain ⟨n, en⟩ : ∃ n : Nat, wc B (sk B q) (we B (sk B q) - sk B q) = n := ⟨(wc B (sk B q) (we B (sk B q) - sk B q)).toNat, by omega⟩
          rw [en] at hb ⊢
          unfold nmC
          rw [if_pos hb]
          clear hwi
          refine ⟨by omega, fun z => absurd z (by omega), fun _ => ?_⟩
          rw [bit1 (by omega) (by omega)]
          by_cases hbit : seen.testBit n = true
          · rw [if_pos hbit]
            rw [kl_again en (by omega) hbit] at r1
            refine ⟨by decide, fun z => absurd rfl z, fun _ => ?_⟩
            unfold w_m_readKind_j0
            exact ⟨by omega, fun _ => F 3 (by rw [r1]) (by rw [r1]) (by decide), fun z => absurd (show (0 : Int) ≤ n by omega) z⟩
          · rw [if_neg hbit]
            rw [kl_next en (by omega) hbit] at r1
            refine ⟨by decide, fun _ => ?_, fun z => absurd z (by decide)⟩
            (intro w ew _ _; have ew : w = N2 12 64 := ew)
            rw [he2] at ew
            subst ew
            (intro N3 eN3; subst eN3)
            have H3 : MS (mset N2 12 62 (we B (sk B q) : Nat)) M B (we B (sk B q)) fa D := H2.at_ rfl
            have hrp := rul_pos hR (s := ((kn * 5 + n : Nat) : Int)) (D := D) hwe
            have e2 : bOr (seen : Int) (bShl 1 (n : Int)) = ((seen ||| 2 ^ n : Nat) : Int) := by
              have hp5 := pow64 n (by omega)
              have := bShl_nat (x := 1) (k := n) (by omega) (by omega)
              rw [Nat.one_mul] at this
              have this : bShl 1 (n : Int) = ((2 ^ n : Nat) : Int) := this
              rw [this]
              exact bOr_nat (by omega) (by omega)
            have eslot : 5 * (kn : Int) + n = ((kn * 5 + n : Nat) : Int) := by omega
            have eslot2 : (kn : Int) * 5 + n = ((kn * 5 + n : Nat) : Int) := by omega
            rw [e2, eslot]
            rw [eslot2] at r1
            have hok : okDr (rul B (we B (sk B q)) ((kn * 5 + n : Nat) : Int) D).2.2.2 := rul_dr (by omega) hD
            refine m_readRule_ok hR H3 hwe (by omega) (fun ez N4 H4 => ?_) (fun ez N4 H4 => ?_)
            · refine ⟨by decide, fun z => absurd rfl z, fun _ => ?_⟩
              refine m_here_ok hR H4 hrp.2 (fun N5 H5 => ?_)
              have hhr := hr_rng hR (sk B (rul B (we B (sk B q)) ((kn * 5 + n : Nat) : Int) D).2.2.1)
              have hsr : (sk B (rul B (we B (sk B q)) ((kn * 5 + n : Nat) : Int) D).2.2.1 : Int) ≤ B 38 0 := sk_L hrp.2
              refine ⟨by omega, m_in_ok (by omega) (by decide) (by decide) (fun hn => ?_) (fun hn1 hn2 => ?_)⟩
              · (first | refine t0n ?_ | refine t0e ?_)
                have hnl : ¬ ltr B (sk B (rul B (we B (sk B q)) ((kn * 5 + n : Nat) : Int) D).2.2.1) := fun z => by have := hr_ltr.mpr z; omega
                rw [if_neg (fun z => hnl z.2)] at r1
                apply hX
                unfold w_m_readKind_B0
                refine ⟨by decide, fun _ => ?_, fun z => absurd rfl z⟩
                rw [r1] at k0
                refine k0 ez N5 _ hsr ?_ H5
                obtain ⟨ez1, ez2⟩ := rul_eta ez
                rw [ez2]
                exact (endc_sk hR (by rw [ez2] at hrp; exact hrp.2)).symm
              · (first | refine t1n ?_ | refine t1e ?_)
                have hl : ltr B (sk B (rul B (we B (sk B q)) ((kn * 5 + n : Nat) : Int) D).2.2.1) := hr_ltr.mp ⟨hn1, hn2⟩
                rw [if_pos ⟨ez, hl⟩] at r1
                obtain ⟨a1, a2⟩ := pc5_add seen hse n (by omega) hbit
                -- the blanks behind it are skipped again: the place is the same
                refine ih (i + 1) (seen ||| 2 ^ n) _ N5 _ (by omega) (by omega) a2 H5 hsr hok ?_
                rw [r1]
                cases d with
                | zero => have := pc5_le (seen ||| 2 ^ n); omega
                | succ d =>
                  rw [kl, kl, sk_sk hR hrp.2]
            · have hri : (rul B (we B (sk B q)) ((kn * 5 + n : Nat) : Int) D).1 = 1 ∨ (rul B (we B (sk B q)) ((kn * 5 + n : Nat) : Int) D).1 = 2 := by
                rcases numF_is B (we B (sk B q)) (loS ((kn * 5 + n : Nat) : Int)) (hiS ((kn * 5 + n : Nat) : Int)) with z | z | z
                · exact absurd (by rw [rul_y z]) ez
                · exact Or.inl (by rw [rul_n (by rw [z]; decide)]; exact z)
                · exact Or.inr (by rw [rul_n (by rw [z]; decide)]; exact z)
              rw [if_neg (fun z => ez z.1)] at r1
              refine ⟨by omega, fun _ => ?_, fun z => absurd z ez⟩
              apply hX
              unfold w_m_readKind_B0
              refine ⟨by decide, fun _ => ?_, fun z => absurd rfl z⟩
              rw [r1] at k1
              exact k1 ez N4 _ D hrp.2 H4
        · rw [kl_bad hb] at r1
          unfold nmC
          rw [if_neg hb]
          refine ⟨by decide, fun _ => ?_, fun z => absurd (by decide) z⟩
          unfold w_m_readKind_j0
          exact ⟨by decide, fun z => absurd z (by decide), fun _ => F 1 (by rw [r1]) (by rw [r1]) (by decide)⟩
    exact key 6 0 0 p1 N1 D (by decide) (by decide) (by decide) H1 hE.2 hD hRes.symm
  · have eK : knd B p D = (numF B p 0 3, ((sk B p : Nat) : Int), numE B p, D) := if_neg e0
    have hi := numF_is B p 0 3
    rw [eK] at k1
    have hE := numE_ok hR hp
    (intro v ev _ _; have ev : v = N1 12 65 := ev)
    refine ⟨by omega, fun _ => ?_, fun z => absurd z e0⟩
    unfold w_m_readKind_L0
    intro X hX
    apply hX
    unfold w_m_readKind_B0
    exact ⟨by decide, fun _ => k1 e0 N1 _ D hE.2 H1, fun z => absurd rfl z⟩
theorem rul_f (p : Nat) (s : Int) (D : Int → Int) : 0 ≤ (rul B p s D).1 ∧ (rul B p s D).1 ≤ 2 := by
  rcases numF_is B p (loS s) (hiS s) with z | z | z
  · rw [rul_y z]; exact ⟨show (0 : Int) ≤ 0 by decide, show (0 : Int) ≤ 2 by decide⟩
  · rw [rul_n (by rw [z]; decide)]; show 0 ≤ numF B _ _ _ ∧ numF B _ _ _ ≤ 2; rw [z]; decide
  · rw [rul_n (by rw [z]; decide)]; show 0 ≤ numF B _ _ _ ∧ numF B _ _ _ ≤ 2; rw [z]; decide
theorem kl_f (kd : Int) : ∀ (d seen q : Nat) (D : Int → Int), 0 ≤ (kl B kd d seen q D).1 ∧ (kl B kd d seen q D).1 ≤ 3
  | 0, _, _, _ => ⟨show (0 : Int) ≤ 3 by decide, show (3 : Int) ≤ 3 by decide⟩
  | d + 1, seen, q, D => by
    rw [kl]
    split
    · split
      · exact ⟨show (0 : Int) ≤ 3 by decide, show (3 : Int) ≤ 3 by decide⟩
      · split
        · exact kl_f kd d _ _ _
        · generalize (kd * 5 + wc B (sk B q) (we B (sk B q) - sk B q)) = sl
          have := rul_f (B := B) (we B (sk B q)) sl D
          omega
    · exact ⟨show (0 : Int) ≤ 1 by decide, show (1 : Int) ≤ 3 by decide⟩
theorem knd_f (p : Nat) (D : Int → Int) : 0 ≤ (knd B p D).1 ∧ (knd B p D).1 ≤ 3 := by
  unfold knd
  split
  · exact kl_f _ _ _ _ _
  · show 0 ≤ numF B p 0 3 ∧ numF B p 0 3 ≤ 3
    have := numF_is B p 0 3
    omega
theorem endc_f {r : Res} (h : 0 ≤ r.1 ∧ r.1 ≤ 3) : 0 ≤ (endc B r).1 ∧ (endc B r).1 ≤ 3 := by
  unfold endc
  split
  · split
    · exact ⟨show (0 : Int) ≤ 0 by decide, show (0 : Int) ≤ 3 by decide⟩
    · exact ⟨show (0 : Int) ≤ 1 by decide, show (1 : Int) ≤ 3 by decide⟩
  · exact h
theorem cls_f (n : Int) (s : Nat) (D : Int → Int) : 0 ≤ (cls B n s D).1 ∧ (cls B n s D).1 ≤ 4 := by
  unfold cls
  split
  · exact ⟨show (0 : Int) ≤ 1 by decide, show (1 : Int) ≤ 4 by decide⟩
  · split
    · exact ⟨show (0 : Int) ≤ 4 by decide, show (4 : Int) ≤ 4 by decide⟩
    · split
      · have := endc_f (B := B) (knd_f (B := B) (we B s) D)
        omega
      · have h1 := rul_f (B := B) (we B s) (wc B s (we B s - s)) D
        have := endc_f (B := B) (r := rul B (we B s) (wc B s (we B s - s)) D) (by omega)
        omega
theorem m_readClause_ok {s : Nat} {n t : Int} {Q : Int → Mem → Prop} (hR : RB B) (H : MS N M B s fa D) (hs : (s : Int) ≤ B 38 0) (hsk : sk B s = s) (hD : okDr D) (ht12 : t = 0 ∧ ¬ 12 ≤ n ∨ t = 1 ∧ 12 ≤ n)
    (k0 : (cls B n s D).1 = 0 → ∀ N', MS N' M B (cls B n s D).2.2.1 fa (cls B n s D).2.2.2 → Q 0 N')
    (k1 : (cls B n s D).1 ≠ 0 → ∀ (N' : Mem) (a : Nat) (D' : Int → Int), (a : Int) ≤ B 38 0 → MS N' M B a (cls B n s D).2.1 D' → Q (cls B n s D).1 N') : w_m_readClause N t Q := by
  have ht := b_tlen hR 0
  have hwe : (we B s : Int) ≤ B 38 0 := we_L hs
  have hwi := wc_is (B := B) s (we B s - s)
  have eC : cls B n s D = if wc B s (we B s - s) < 20 then (1, (s : Int), s, D) else if 12 ≤ n then (4, (s : Int), s, D) else endc B (if wc B s (we B s - s) = 25 then knd B (we B s) D else rul B (we B s) (wc B s (we B s - s)) D) := rfl
  generalize cls B n s D = R at k0 k1 eC
  unfold w_m_readClause
  refine m_readWord_ok hR H hs (fun N1 H1 hw1 he1 => ?_)
  rw [hsk] at H1 hw1 he1
  refine m_keyOf_ok hw1 (fun i hi => letters hi) ?_
  have F : ∀ x : Int, R.1 = x → R.2.1 = (s : Int) → x ≠ 0 → w_m_readClause_j1 Q x N1 := by
    intro x ex ep hx
    unfold w_m_readClause_j1
    (intro a ea _ _; have ea : a = N1 12 62 := ea)
    rw [H1.1] at ea
    refine m_fails_ok H1 (by omega) (fun N3 H3 => ?_)
    rw [ea, ← ep] at H3
    have := k1 (by rw [ex]; exact hx) N3 _ D hs H3
    rw [ex] at this
    exact this
  -- behind the words, without a fault
  have E : ∀ (N' : Mem) (a : Nat) (D' : Int → Int), (a : Int) ≤ B 38 0 → MS N' M B a fa D' → R = endc B (0, 0, a, D') → w_m_readClause_j2 Q 0 N' := by
    intro N' a D' ha H' eR
    have hsa : (sk B a : Int) ≤ B 38 0 := sk_L ha
    unfold w_m_readClause_j2
    refine ⟨by decide, fun _ => ?_, fun z => absurd (by decide) z⟩
    refine m_here_ok hR H' ha (fun N2 H2 => ?_)
    have hhr := hr_rng hR (sk B a)
    refine ⟨by omega, fun h => ?_, fun h => ?_⟩
    · have hy : ((sk B a : Nat) : Int) < B 38 0 ∧ B 37 ((sk B a : Nat) : Int) = 59 := by
        unfold hr at h
        by_cases z : ((sk B a : Nat) : Int) < B 38 0
        · rw [if_pos z] at h; exact ⟨z, h⟩
        · rw [if_neg z] at h; exact absurd h (by decide)
      rw [endc_y hy] at eR
      (intro z ez _ _; have ez : z = N2 12 62 := ez)
      rw [H2.1] at ez
      refine ⟨by omega, ?_⟩
      (intro N3 eN3; subst eN3)
      rw [eR] at k0
      exact k0 rfl _ (show MS _ M B (sk B a + 1) fa D' from H2.at_ (by omega))
    · have hn : ¬ (((sk B a : Nat) : Int) < B 38 0 ∧ B 37 ((sk B a : Nat) : Int) = 59) := fun z => h (by unfold hr; rw [if_pos z.1]; exact z.2)
      rw [endc_n hn] at eR
      (intro z ez _ _; have ez : z = N2 12 62 := ez)
      rw [H2.1] at ez
      refine m_fails_ok H2 (by omega) (fun N3 H3 => ?_)
      rw [eR] at k1
      rw [ez] at H3
      exact k1 (by show (1 : Int) ≠ 0; decide) N3 _ D' hsa H3
  by_cases h20 : wc B s (we B s - s) < 20
  · rw [if_pos h20] at eC
    unfold kyC
    rw [if_neg (by omega), if_neg (by omega)]
    refine ⟨by decide, fun _ => ?_, fun z => absurd (by decide) z⟩
    unfold w_m_readClause_j0
    exact ⟨by decide, fun z => absurd z (by decide), fun _ => F 1 (by rw [eC]) (by rw [eC]) (by decide)⟩
  · rw [if_neg h20] at eC
    obtain ⟨w, ew, hw2, _⟩ := hwi.resolve_left (by omega)
    clear hwi
    rw [ew] at eC h20 ⊢
    have hky : 0 ≤ kyC w ∧ kyC w ≤ 24 := by
      unfold kyC
      split
      · decide
      · split <;> omega
    refine ⟨by omega, fun z => absurd z (by omega), fun _ => ⟨by omega, fun h0 => ?_, fun h0 => ?_⟩⟩
    · rw [if_neg (by omega)] at eC
      (intro e ee _ _; have ee : e = N1 12 64 := ee)
      rw [he1] at ee
      subst ee
      (intro N2 eN2; subst eN2)
      have H2 : MS (mset N1 12 62 (we B s : Nat)) M B (we B s) fa D := H1.at_ rfl
      refine ⟨by omega, fun hk => ?_, fun hk => ?_⟩
      · have hw5 : (w : Int) ≠ 25 := fun z => hk (by unfold kyC; rw [if_pos z])
        have ek : kyC w = w := by unfold kyC; rw [if_neg hw5, if_pos (by omega)]
        rw [if_neg hw5] at eC
        rw [ek]
        have hrp := rul_pos hR (s := (w : Int)) (D := D) hwe
        refine m_readRule_ok hR H2 hwe (by omega) (fun ez N3 H3 => ?_) (fun ez N3 H3 => ?_)
        · refine E N3 _ _ hrp.2 H3 ?_
          rw [eC]
          obtain ⟨ez1, ez2⟩ := rul_eta ez
          rw [ez2]
        · rw [endc_bad ez] at eC
          unfold w_m_readClause_j2
          have hri : (rul B (we B s) w D).1 = 1 ∨ (rul B (we B s) w D).1 = 2 := by
            rcases numF_is B (we B s) (loS w) (hiS w) with z | z | z
            · exact absurd (by rw [rul_y z]) ez
            · exact Or.inl (by rw [rul_n (by rw [z]; decide)]; exact z)
            · exact Or.inr (by rw [rul_n (by rw [z]; decide)]; exact z)
          refine ⟨by omega, fun z => absurd z (by omega), fun _ => ?_⟩
          rw [eC] at k1
          exact k1 ez N3 _ D hrp.2 H3
      · have hw5 : (w : Int) = 25 := by
          by_cases z : (w : Int) = 25
          · exact z
          · unfold kyC at hk
            rw [if_neg z, if_pos (by omega)] at hk
            omega
        rw [if_pos hw5] at eC
        refine m_readKind_ok hR H2 hwe hD (fun ez N3 a3 ha3 ee3 H3 => E N3 a3 _ ha3 H3 (by rw [eC]; exact ee3)) (fun ez N3 a3 D3 ha3 H3 => ?_)
        rw [endc_bad ez] at eC
        rw [eC] at k1
        have hkf := knd_f (B := B) (we B s) D
        unfold w_m_readClause_j2
        exact ⟨by omega, fun z => absurd z (by omega), fun _ => k1 ez N3 a3 D3 ha3 H3⟩
    · rw [if_pos (by omega)] at eC
      unfold w_m_readClause_j0
      exact ⟨by omega, fun _ => F 4 (by rw [eC]) (by rw [eC]) (by decide), fun z => absurd hky.1 z⟩
theorem m_first_ok {Q : Mem → Prop} (kk : ∀ N', (∀ j : Int, 0 ≤ j → j < 25 → N' 65 j = fiS j) → (∀ h, h ≠ 65 → N' h = N h) → Q N') : w_m_first N Q := by
  unfold w_m_first w_m_first_L0
  intro X hX
  have key : ∀ (d i : Nat) (O : Mem), i + d = 4 → (∀ j : Int, 0 ≤ j → j < 5 * i → O 65 j = fiS j) → (∀ h, h ≠ 65 → O h = N h) → X i O := by
    intro d
    induction d with
    | zero =>
      intro i O hd h1 h2
      apply hX
      unfold w_m_first_B0
      refine ⟨by omega, fun _ => ?_, fun h => absurd h (by omega)⟩
      (intro O1 eO1; subst eO1)
      (intro O2 eO2; subst eO2)
      (intro O3 eO3; subst eO3)
      (intro O4 eO4; subst eO4)
      (intro O5 eO5; subst eO5)
      refine kk _ (fun j a b => ?_) (fun h e => by rw [mset_ne e, mset_ne e, mset_ne e, mset_ne e, mset_ne e]; exact h2 h e)
      by_cases e24 : j = 24
      · rw [e24, ms_s]; decide
      · rw [ms_n e24]
        by_cases e23 : j = 23
        · rw [e23, ms_s]; decide
        · rw [ms_n e23]
          by_cases e22 : j = 22
          · rw [e22, ms_s]; decide
          · rw [ms_n e22]
            by_cases e21 : j = 21
            · rw [e21, ms_s]; decide
            · rw [ms_n e21]
              by_cases e20 : j = 20
              · rw [e20, ms_s]; decide
              · rw [ms_n e20]
                exact h1 j a (by omega)
    | succ d ih =>
      intro i O hd h1 h2
      have t : ∀ k : Nat, k < 4 → fiS (5 * (k : Int)) = 20 ∧ fiS (5 * (k : Int) + 1) = 50 ∧ fiS (5 * (k : Int) + 2) = 90 ∧ fiS (5 * (k : Int) + 3) = 10 ∧ fiS (5 * (k : Int) + 4) = 60 := by decide
      obtain ⟨t0, t1, t2, t3, t4⟩ := t i (by omega)
      apply hX
      unfold w_m_first_B0
      refine ⟨by omega, fun h => absurd h (by omega), fun _ => ⟨by omega, ?_⟩⟩
      (intro O1 eO1; subst eO1)
      refine ⟨by omega, ?_⟩
      (intro O2 eO2; subst eO2)
      refine ⟨by omega, ?_⟩
      (intro O3 eO3; subst eO3)
      refine ⟨by omega, ?_⟩
      (intro O4 eO4; subst eO4)
      refine ⟨by omega, ?_⟩
      (intro O5 eO5; subst eO5)
      refine ih (i + 1) _ (by omega) (fun j a b => ?_) (fun h e => by rw [mset_ne e, mset_ne e, mset_ne e, mset_ne e, mset_ne e]; exact h2 h e)
      by_cases e4 : j = 5 * (i : Int) + 4
      · rw [e4, ms_s, t4]
      · rw [ms_n e4]
        by_cases e3 : j = 5 * (i : Int) + 3
        · rw [e3, ms_s, t3]
        · rw [ms_n e3]
          by_cases e2 : j = 5 * (i : Int) + 2
          · rw [e2, ms_s, t2]
          · rw [ms_n e2]
            by_cases e1 : j = 5 * (i : Int) + 1
            · rw [e1, ms_s, t1]
            · rw [ms_n e1]
              by_cases e0 : j = 5 * (i : Int)
              · rw [e0, ms_s, t0]
              · rw [ms_n e0]
                exact h1 j a (by omega)
  exact key 4 0 N (by decide) (fun j a b => absurd b (by omega)) (fun _ _ => rfl)
/-- a row of rules put in place -/
def rlR (old D : Int → Int) : Int → Int := fun j => if 0 ≤ j ∧ j < 25 then D j else old j
theorem m_keep_ok {Q : Mem → Prop} (hD : ∀ j : Int, 0 ≤ j → j < 25 → N 65 j = D j) (kk : ∀ N', N' 64 = rlR (N 64) D → (∀ c : Int, 0 ≤ c → c < 6 → N' 66 c = 0) → (∀ h, h ≠ 64 → h ≠ 66 → N' h = N h) → Q N') : w_m_keep N Q := by
  unfold w_m_keep w_m_keep_L0
  intro X hX
  have key : ∀ (d i : Nat) (O : Mem), i + d = 25 → (∀ j : Int, O 64 j = if 0 ≤ j ∧ j < i then D j else N 64 j) → (∀ h, h ≠ 64 → O h = N h) → X i O := by
    intro d
    induction d with
    | zero =>
      intro i O hd h1 h2
      rw [Nat.add_zero] at hd
      subst hd
      apply hX
      unfold w_m_keep_B0
      refine ⟨by decide, fun _ => m_change_ok (fun P p1 p2 => kk P ?_ p1 (fun h a b => by rw [p2 h b]; exact h2 h a)), fun h => absurd (by decide) h⟩
      rw [p2 _ (by decide)]
      funext j
      exact h1 j
    | succ d ih =>
      intro i O hd h1 h2
      apply hX
      unfold w_m_keep_B0
      refine ⟨by omega, fun h => absurd h (by omega), fun _ => ⟨by omega, ?_⟩⟩
      (intro v ev _ _; have ev : v = O 65 i := ev)
      rw [h2 _ (by decide), hD i (by omega) (by omega)] at ev
      refine ⟨by omega, ?_⟩
      (intro O1 eO1; subst eO1)
      refine ih (i + 1) _ (by omega) (fun j => ?_) (fun h e => by rw [mset_ne e]; exact h2 h e)
      by_cases z : j = i
      · rw [z, ms_s, if_pos (by omega)]; exact ev
      · rw [ms_n z, h1 j]
        by_cases y : 0 ≤ j ∧ j < i
        · rw [if_pos y, if_pos (by omega)]
        · rw [if_neg y, if_neg (by omega)]
  exact key 25 0 N (by decide) (fun j => by rw [if_neg (by omega)]) (fun _ _ => rfl)
/-- what the model's reading leaves -/
def PM2 (N M : Mem) (fa : Int) (D : Int → Int) : Prop := N 12 61 = fa ∧ N 12 60 = 0 ∧ (∀ j : Int, 0 ≤ j → j < 25 → N 65 j = D j) ∧ (∀ h, h ≠ 12 → h ≠ 65 → N h = M h) ∧ (∀ k : Int, k ≠ 61 → k ≠ 62 → k ≠ 63 → k ≠ 64 → k ≠ 65 → k ≠ 60 → N 12 k = M 12 k)
theorem m_read_ok {Q : Int → Mem → Prop} (hM : MB M B) (hR : RB B) (k0 : (rdR B).2.1 = 0 → ∀ N, PM2 N M (-1) (rdR B).2.2.2.2 → w_m_keep N (fun M7 => Q (rdR B).1 M7)) (k1 : (rdR B).2.1 ≠ 0 → ∀ N D, PM2 N M (rdR B).2.2.1 D → Q (-10 - (rdR B).2.1) N) : w_m_read M Q := by
  have ht := b_tlen hR 0
  unfold w_m_read
  (intro M1 eM1; subst eM1)
  (intro M2 eM2; subst eM2)
  refine m_first_ok (fun M3 f1 f2 => ?_)
  have H0 : MS M3 M B 0 (-1) fiS := by
    refine ⟨?_, ?_, f1, ?_, ?_, fun h a b => ?_, fun k a b _ _ _ => ?_⟩
    · rw [f2 _ (by decide), ms_s]; rfl
    · rw [f2 _ (by decide), ms_n (by decide), ms_s]
    · rw [f2 _ (by decide), ms_n (by decide), ms_n (by decide), m_tlen hM]
    · rw [f2 _ (by decide), mset_ne (by decide), mset_ne (by decide), m_text hM]
    · rw [f2 h b, mset_ne a, mset_ne a]
    · rw [f2 _ (by decide), ms_n b, ms_n a]
  have fin : ∀ N a y D, MS N M B a y D → PM2 (mset N 12 60 0) M y D := by
    intro N a y D H
    obtain ⟨h1, h2, h3, h4, h5, h6, h7⟩ := H
    exact ⟨by rw [ms_n (by decide)]; exact h2, ms_s, fun j a b => by rw [mset_ne (by decide)]; exact h3 j a b, fun h a b => by rw [mset_ne a]; exact h6 h a b, fun k a b c d e f => by rw [ms_n f]; exact h7 k a b c d e⟩
  unfold w_m_read_L0
  intro X hX
  have key : ∀ (d i p : Nat) (N : Mem) (D : Int → Int), i + d = 200 → i ≤ 12 → i ≤ sk B p → (p : Int) ≤ B 38 0 → MS N M B p (-1) D → okDr D → prs B d i (sk B p) D = rdR B → X i 0 N := by
    intro d
    induction d with
    | zero =>
      intro i p N D hd h12 hip hp H hD e
      omega
    | succ d ih =>
      intro i p N D hd h12 hip hp H hD e
      have hs : (sk B p : Int) ≤ B 38 0 := sk_L hp
      have hbt := b_text hR (sk B p)
      unfold prs at e
      apply hX
      unfold w_m_read_B0
      refine ⟨by decide, fun z => absurd rfl z, fun _ => ?_⟩
      refine m_here_ok hR H hp (fun N1 H1 => ?_)
      have hhr := hr_rng hR (sk B p)
      refine ⟨by omega, fun h => ?_, fun h => ?_⟩
      · have hnl : ¬ (sk B p : Int) < B 38 0 := fun z => by
          unfold hr at h
          rw [if_pos z] at h
          omega
        rw [if_neg hnl] at e
        unfold w_m_read_j1
        (intro N2 eN2; subst eN2)
        refine ⟨by decide, fun _ => ?_, fun z => absurd (by decide) z⟩
        rw [← e] at k0
        exact k0 rfl _ (fin N1 _ _ _ H1)
      · have hl : (sk B p : Int) < B 38 0 := by
          by_cases z : (sk B p : Int) < B 38 0
          · exact z
          · unfold hr at h
            rw [if_neg z] at h
            exact absurd (by decide) h
        rw [if_pos hl] at e
        have J : ∀ t : Int, (t = 0 ∧ ¬ (12 : Int) ≤ i ∨ t = 1 ∧ (12 : Int) ≤ i) → w_m_read_j0 Q X i t N1 := by
          intro t htt
          unfold w_m_read_j0
          refine m_readClause_ok hR H1 hs (sk_sk hR hp) hD htt (fun hz N2 H2 => ?_) (fun hz N2 a2 D2 ha2 H2 => ?_)
          · rw [if_pos hz] at e
            have ok := cls_ok hR hs hD hz
            have h12' : i < 12 := by
              by_cases y : (12 : Int) ≤ i
              · have : (cls B i (sk B p) D).1 ≠ 0 := by
                  unfold cls
                  split
                  · show (1 : Int) ≠ 0; decide
                  · show (4 : Int) ≠ 0; decide
                exact absurd hz this
              · omega
            have hsk := sk_le (B := B) (cls B i (sk B p) D).2.2.1
            exact ih (i + 1) _ N2 _ (by omega) (by omega) (by omega) ok.2.1 H2 ok.2.2 e
          · rw [if_neg hz] at e
            have eN : (cls B i (sk B p) D) = (rdR B).2 := congrArg Prod.snd e
            apply hX
            unfold w_m_read_B0
            rw [← eN] at k1
            have hfr := cls_f (B := B) i (sk B p) D
            refine ⟨by omega, fun _ => ?_, fun z => absurd z hz⟩
            unfold w_m_read_j1
            (intro N3 eN3; subst eN3)
            exact ⟨by omega, fun z => absurd z (by omega), fun _ => k1 hz _ D2 (fin N2 _ _ _ H2)⟩
        refine ⟨by omega, fun h => J 0 (Or.inl ⟨rfl, by omega⟩), fun h => J 1 (Or.inr ⟨rfl, by omega⟩)⟩
  exact key 200 0 0 M3 fiS (by decide) (by decide) (by omega) (by omega) H0 (fun s hs => (bdS s hs).2.2) rfl
end MREAD2
