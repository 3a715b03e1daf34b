/-! ===== the class reads: clauses ===== -/
section CREAD2
variable {M N B : Mem} {c f fa : Int} {D : Int → Int} {p : Nat}
theorem loS_k : ∀ k : Nat, k < 4 → ∀ n : Nat, n < 5 → loS ((k : Int) * 5 + n) = loS n ∧ hiS ((k : Int) * 5 + n) = hiS n := by decide
theorem rul_eta {s : Int} (h : (rul B p s D).1 = 0) : numF B p (loS s) (hiS s) = 0 ∧ rul B p s D = (0, 0, numE B p, putD D s (numV B p)) := by
  unfold rul at h ⊢
  by_cases e : numF B p (loS s) (hiS s) = 0
  · rw [if_pos e]; exact ⟨e, rfl⟩
  · rw [if_neg e] at h; exact absurd h e
theorem rul_y {s : Int} (e : numF B p (loS s) (hiS s) = 0) : rul B p s D = (0, 0, numE B p, putD D s (numV B p)) := if_pos e
theorem rul_n {s : Int} (e : numF B p (loS s) (hiS s) ≠ 0) : rul B p s D = (numF B p (loS s) (hiS s), ((sk B p : Nat) : Int), numE B p, D) := if_neg e
theorem wc_zero (s : Nat) : wc B s 0 = -1 := by
  rcases wc_is (B := B) s 0 with e | ⟨k, e1, e2, e3⟩
  · exact e
  · exact absurd (List.eq_nil_of_length_eq_zero e3.2.1.symm) e3.1
theorem we_none {s : Nat} (h : ¬ ltr B s) : we B s - s = 0 := by
  rw [(show we B s = s from sc_stop h)]
  omega
theorem endc_bad {r : Res} (h : r.1 ≠ 0) : endc B r = r := if_neg h
theorem endc_sk (hR : RB B) {a : Nat} (ha : (a : Int) ≤ B 38 0) : endc B (0, 0, sk B a, D) = endc B (0, 0, a, D) := by
  unfold endc
  show (if (0 : Int) = 0 then (if ((sk B (sk B a) : Nat) : Int) < B 38 0 ∧ B 37 ((sk B (sk B a) : Nat) : Int) = 59 then ((0, 0, sk B (sk B a) + 1, D) : Res) else (1, ((sk B (sk B a) : Nat) : Int), sk B (sk B a), D)) else (0, 0, sk B a, D)) = (if (0 : Int) = 0 then (if ((sk B a : Nat) : Int) < B 38 0 ∧ B 37 ((sk B a : Nat) : Int) = 59 then ((0, 0, sk B a + 1, D) : Res) else (1, ((sk B a : Nat) : Int), sk B a, D)) else (0, 0, a, D))
  rw [if_pos rfl, if_pos rfl, sk_sk hR ha]
theorem endc_y {a : Nat} (h : ((sk B a : Nat) : Int) < B 38 0 ∧ B 37 ((sk B a : Nat) : Int) = 59) : endc B (0, 0, a, D) = (0, 0, sk B a + 1, D) := by
  unfold endc
  rw [if_pos rfl]
  exact if_pos h
theorem endc_n {a : Nat} (h : ¬ (((sk B a : Nat) : Int) < B 38 0 ∧ B 37 ((sk B a : Nat) : Int) = 59)) : endc B (0, 0, a, D) = (1, ((sk B a : Nat) : Int), sk B a, D) := by
  unfold endc
  rw [if_pos rfl]
  exact if_neg h
theorem kl_bad {kd : Int} {d seen : Nat} (h : ¬ (0 ≤ wc B (sk B p) (we B (sk B p) - sk B p) ∧ wc B (sk B p) (we B (sk B p) - sk B p) < 5)) : kl B kd (d + 1) seen p D = (1, ((sk B p : Nat) : Int), sk B p, D) := by
  unfold kl
  rw [if_neg h]
theorem kl_again {kd : Int} {d seen n : Nat} (e : wc B (sk B p) (we B (sk B p) - sk B p) = n) (hn : n < 5) (h : seen.testBit n = true) : kl B kd (d + 1) seen p D = (3, ((sk B p : Nat) : Int), sk B p, D) := by
  unfold kl
  rw [e, if_pos (by omega), Int.toNat_natCast, if_pos h]
theorem kl_next {kd : Int} {d seen n : Nat} (e : wc B (sk B p) (we B (sk B p) - sk B p) = n) (hn : n < 5) (h : ¬ seen.testBit n = true) : kl B kd (d + 1) seen p D = if (rul B (we B (sk B p)) (kd * 5 + n) D).1 = 0 ∧ ltr B (sk B (rul B (we B (sk B p)) (kd * 5 + n) D).2.2.1) then kl B kd d (seen ||| 2 ^ n) (rul B (we B (sk B p)) (kd * 5 + n) D).2.2.1 (rul B (we B (sk B p)) (kd * 5 + n) D).2.2.2 else rul B (we B (sk B p)) (kd * 5 + n) D := by
  rw [kl, e, if_pos (by omega), Int.toNat_natCast, if_neg h]
theorem takeKind_ok {Q : Mem → Prop} (hR : RB B) (H : RS N M B p c 0 fa D) (hp : (p : Int) ≤ B 38 0)
    (k0 : ∀ (N' : Mem) (a : Nat) (D' : Int → Int), (a : Int) ≤ B 38 0 → RS N' M B a c 0 fa D' → endc B (knd B p D) = endc B (0, 0, a, D') → Q N')
    (k1 : ∀ (N' : Mem) (a : Nat) (D' : Int → Int), (a : Int) ≤ B 38 0 → (endc B (knd B p D)).1 ≠ 0 → RS N' M B a c (endc B (knd B p D)).1 (endc B (knd B p D)).2.1 D' → Q N') : w_Reader_takeKind N Q := by
  have ht := b_tlen hR 0
  unfold w_Reader_takeKind
  -- a flaw ends the names
  have bad : ∀ (X : Int → Int → Mem → Prop) (kd x : Int) (i : Nat) (N' : Mem) (a : Nat) (g y : Int) (D' : Int → Int), (∀ (x2 x3 : Int) (M : Mem), w_Reader_takeKind_B0 Q kd X x2 x3 M → X x2 x3 M) → i ≤ 6 → g ≠ 0 → RS N' M B a c g y D' → (∀ N', RS N' M B a c g y D' → Q N') → X x i N' := by
    intro X kd x i N' a g y D' hX hi hg H' kk
    apply hX
    unfold w_Reader_takeKind_B0
    refine ⟨by omega, fun _ => kk N' H', fun _ => ?_⟩
    (intro z ez _ _; have ez : z = N' 11 2 := ez)
    rw [H'.2.2.1] at ez
    exact ⟨fun _ => kk N' H', fun w => absurd (ez.symm.trans w) hg⟩
  refine takeNumber_ok hR H hp (by decide) (by decide) (fun e0 N1 H1 => ?_) (fun e0 N1 H1 => ?_)
  · have hE := numE_ok hR hp
    have hkd := numV_in e0
    have eK : knd B p D = kl B (numV B p) 6 0 (numE B p) D := if_pos e0
    rw [eK] at k0 k1
    generalize numV B p = kd at *
    generalize numE B p = p1 at *
    generalize hRes : endc B (kl B kd 6 0 p1 D) = R at k0 k1
    obtain ⟨kn, rfl⟩ : ∃ n : Nat, kd = n := ⟨kd.toNat, by omega⟩
    unfold w_Reader_takeKind_L0
    intro X hX
    have key : ∀ (d i seen q : Nat) (N : Mem) (D : Int → Int), i + d = 6 → pc5 seen = i → seen < 32 → RS N M B q c 0 fa D → (q : Int) ≤ B 38 0 → (i = 0 ∨ ltr B (sk B q) → R = endc B (kl B kn d seen q D)) → (¬ (i = 0 ∨ ltr B (sk B q)) → R = endc B (0, 0, q, D)) → X seen i N := by
      intro d
      induction d with
      | zero =>
        intro i seen q N D hd hpc hse H hq r1 r2
        have := pc5_le seen
        omega
      | succ d ih =>
        intro i seen q N D hd hpc hse H hq r1 r2
        have hs : (sk B q : Int) ≤ B 38 0 := sk_L hq
        have hwe : (we B (sk B q) : Int) ≤ B 38 0 := we_L hs
        apply hX
        unfold w_Reader_takeKind_B0
        refine ⟨by omega, fun h => absurd h (by omega), fun _ => ?_⟩
        (intro z ez _ _; have ez : z = N 11 2 := ez)
        rw [H.2.2.1] at ez
        refine ⟨fun w => absurd ez w, fun _ => ?_⟩
        refine skip_ok hR H hq (fun N2 H2 => ?_)
        have J0 : (i = 0 ∨ ¬ ((sk B q : Int) < B 38 0 ∧ B 37 (sk B q) = 59)) → w_Reader_takeKind_j0 Q X kn seen i N2 := by
          intro hns
          unfold w_Reader_takeKind_j0
          (intro a ea _ _; have ea : a = N2 11 5 := ea)
          rw [H2.1] at ea
          subst ea
          refine takeWord_ok hR H2 hs (fun N3 H3 => ?_)
          have hwi := wc_is (B := B) (sk B q) (we B (sk B q) - sk B q)
          -- a word that isn't a name
          have stand : ¬ (0 ≤ wc B (sk B q) (we B (sk B q) - sk B q) ∧ wc B (sk B q) (we B (sk B q) - sk B q) < 5) → w_Reader_takeKind_j1 Q X kn seen i (sk B q) (wc B (sk B q) (we B (sk B q) - sk B q)) N3 := by
            intro hb
            have eR : R.1 = 1 ∧ R.2.1 = (sk B q : Nat) := by
              by_cases hl : i = 0 ∨ ltr B (sk B q)
              · rw [r1 hl, kl_bad hb, endc_bad (show (1 : Int) ≠ 0 by decide)]
                exact ⟨rfl, rfl⟩
              · rw [r2 hl, endc_n (fun z => hns.elim (fun w => hl (Or.inl w)) (fun w => w z))]
                exact ⟨rfl, rfl⟩
            unfold w_Reader_takeKind_j1
            refine fail_ok H3 (by decide) (by omega) (fun _ N4 H4 => ?_) (fun z => absurd rfl z)
            unfold w_Reader_takeKind_j2
            refine ⟨by rcases hwi with z | ⟨k, z1, z2, z3⟩ <;> omega, ?_⟩
            refine bad X kn _ (i + 1) N4 (we B (sk B q)) 1 (sk B q : Nat) D hX (by omega) (by decide) H4 (fun N' H' => k1 N' _ D hwe (by rw [eR.1]; decide) ?_)
            rw [eR.1, eR.2]
            exact H'
          refine ⟨by rcases hwi with z | ⟨k, z1, z2, z3⟩ <;> omega, fun hneg => stand (fun z => by omega), fun hneg => ⟨by rcases hwi with z | ⟨k, z1, z2, z3⟩ <;> omega, fun h5 => ?_, fun h5 => stand (fun z => h5 z.2)⟩⟩
          -- a name
          obtain ⟨n, en⟩ : ∃ n : Nat, wc B (sk B q) (we B (sk B q) - sk B q) = n := ⟨(wc B (sk B q) (we B (sk B q) - sk B q)).toNat, by omega⟩
          have hl : i = 0 ∨ ltr B (sk B q) := Or.inr (Classical.byContradiction (fun z => by
            rw [we_none z, wc_zero] at en
            omega))
          have r1 := r1 hl
          clear hwi stand
          rw [en] at hneg h5 ⊢
          rw [bit1 (by omega) (by omega)]
          have e2 : bOr (seen : Int) (bShl 1 (max 0 (n : Int))) = ((seen ||| 2 ^ n : Nat) : Int) := by
            have hp5 := pow64 n (by omega)
            have := bShl_nat (x := 1) (k := n) (by omega) (by omega)
            rw [Nat.one_mul] at this
            have this : bShl 1 (n : Int) = ((2 ^ n : Nat) : Int) := this
            rw [(show max 0 (n : Int) = n by omega), this]
            exact bOr_nat (by omega) (by omega)
          by_cases hb : seen.testBit n = true
          · rw [if_pos hb]
            refine ⟨by decide, fun z => absurd rfl z, fun _ => ?_⟩
            rw [kl_again en (by omega) hb, endc_bad (show (3 : Int) ≠ 0 by decide)] at r1
            refine fail_ok H3 (by decide) (by omega) (fun _ N4 H4 => ?_) (fun z => absurd rfl z)
            unfold w_Reader_takeKind_j2
            refine ⟨by omega, ?_⟩
            refine bad X kn _ (i + 1) N4 (we B (sk B q)) 3 (sk B q : Nat) D hX (by omega) (by decide) H4 (fun N' H' => k1 N' _ D hwe (by rw [r1]; show (3 : Int) ≠ 0; decide) ?_)
            rw [r1]
            exact H'
          · rw [if_neg hb]
            refine ⟨by decide, fun _ => ?_, fun z => absurd z (by decide)⟩
            have hbd := bdS n (by omega)
            have hks := loS_k kn (by omega) n (by omega)
            rw [kl_next en (by omega) hb] at r1
            refine lowest_ok (by omega) (highest_ok (by omega) ?_)
            refine takeNumber_ok hR H3 hwe (by omega) (by omega) (fun eF N4 H4 => ?_) (fun eF N4 H4 => ?_)
            · have hv := numV_in eF
              have hE2 := numE_ok hR hwe
              rw [← hks.1, ← hks.2] at eF
              rw [rul_y eF] at r1
              refine ⟨⟨by omega, by omega⟩, ?_⟩
              (intro N5 eN5; subst eN5)
              unfold w_Reader_takeKind_j2
              refine ⟨by omega, ?_⟩
              rw [e2]
              obtain ⟨a1, a2⟩ := pc5_add seen hse n (by omega) hb
              refine ih (i + 1) (seen ||| 2 ^ n) (numE B (we B (sk B q))) _ (putD D ((kn : Int) * 5 + n) (numV B (we B (sk B q)))) (by omega) (by omega) a2 H4.dr hE2.2 (fun hy => ?_) (fun hy => ?_)
              · rw [if_pos ⟨rfl, hy.resolve_left (by omega)⟩] at r1
                exact r1
              · rw [if_neg (fun z => hy (Or.inr z.2))] at r1
                exact r1
            · have hE2 := numE_ok hR hwe
              have eF2 := eF
              rw [← hks.1, ← hks.2] at eF2
              rw [rul_n eF2, if_neg (fun z => eF2 z.1), endc_bad (show numF B (we B (sk B q)) (loS ((kn : Int) * 5 + n)) (hiS ((kn : Int) * 5 + n)) ≠ 0 from eF2)] at r1
              refine ⟨⟨by omega, by omega⟩, ?_⟩
              (intro N5 eN5; subst eN5)
              unfold w_Reader_takeKind_j2
              refine ⟨by omega, ?_⟩
              rw [hks.1, hks.2] at r1
              refine bad X kn _ (i + 1) _ (numE B (we B (sk B q))) _ _ _ hX (by omega) eF H4.dr (fun N' H' => k1 N' _ (putD D ((kn : Int) * 5 + n) (loS n)) hE2.2 (by rw [r1]; exact eF) ?_)
              rw [r1]
              exact H'
        refine ⟨by omega, fun hi0 => J0 (Or.inl (by omega)), fun hi0 => ?_⟩
        refine isNext_ok hR H2 hs (by decide) (fun hy => ?_) (fun hy => ?_)
        · (first | refine t1n ?_ | refine t1e ?_)
          refine k0 N2 (sk B q) D hs H2 ?_
          have hnl : ¬ (i = 0 ∨ ltr B (sk B q)) := fun z => z.elim (fun w => by omega) (fun w => by have := hy.2; have := w.2; omega)
          rw [r2 hnl, endc_sk hR hq]
        · (first | refine t0n ?_ | refine t0e ?_)
          exact J0 (Or.inr hy)
    exact key 6 0 0 p1 N1 D (by decide) (by decide) (by decide) H1 hE.2 (fun _ => hRes.symm) (fun z => absurd (Or.inl rfl) z)
  · have eK : knd B p D = (numF B p 0 3, ((sk B p : Nat) : Int), numE B p, D) := if_neg e0
    rw [eK, endc_bad (show numF B p 0 3 ≠ 0 from e0)] at k1
    have hE := numE_ok hR hp
    unfold w_Reader_takeKind_L0
    intro X hX
    exact bad X 0 0 0 N1 (numE B p) _ _ D hX (by decide) e0 H1 (fun N' H' => k1 N' _ D hE.2 e0 H')
theorem takeClause_ok {s : Nat} {n : Int} {Q : Mem → Prop} (hR : RB B) (H : RS N M B s n 0 fa D) (hs : (s : Int) ≤ B 38 0) (n0 : 0 ≤ n ∧ n ≤ 200)
    (k0 : (cls B n s D).1 = 0 → ∀ N', RS N' M B (cls B n s D).2.2.1 (n + 1) 0 fa (cls B n s D).2.2.2 → Q N')
    (k1 : (cls B n s D).1 ≠ 0 → ∀ (N' : Mem) (a : Nat) (D' : Int → Int), (a : Int) ≤ B 38 0 → RS N' M B a (n + 1) (cls B n s D).1 (cls B n s D).2.1 D' → Q N') : w_Reader_takeClause N Q := by
  have ht := b_tlen hR 0
  have hwe : (we B s : Int) ≤ B 38 0 := we_L hs
  have hwi := wc_is (B := B) s (we B s - s)
  have eC : cls B n s D = if wc B s (we B s - s) < 20 then (1, (s : Int), s, D) else if 12 ≤ n then (4, (s : Int), s, D) else endc B (if wc B s (we B s - s) = 25 then knd B (we B s) D else rul B (we B s) (wc B s (we B s - s)) D) := rfl
  generalize cls B n s D = R at k0 k1 eC
  have J1 : ∀ N' a g y D', RS N' M B a n g y D' → (∀ N'', RS N'' M B a (n + 1) g y D' → Q N'') → w_Reader_takeClause_j1 Q N' := by
    intro N' a g y D' H' kk
    unfold w_Reader_takeClause_j1
    (intro z ez _ _; have ez : z = N' 11 6 := ez)
    rw [H'.2.1] at ez
    refine ⟨by omega, ?_⟩
    (intro N2 eN2; subst eN2)
    rw [ez]
    exact kk _ H'.cl
  -- behind a clause's words: no flaw, or one
  have J0a : ∀ (N' : Mem) (a : Nat) (D' : Int → Int), (a : Int) ≤ B 38 0 → RS N' M B a n 0 fa D' → R = endc B (0, 0, a, D') → w_Reader_takeClause_j0 Q N' := by
    intro N' a D' ha H' eR
    have hsk : (sk B a : Int) ≤ B 38 0 := sk_L ha
    unfold w_Reader_takeClause_j0
    refine skip_ok hR H' ha (fun N2 H2 => ?_)
    refine isNext_ok hR H2 hsk (by decide) (fun hy => ?_) (fun hy => ?_)
    · (first | refine t1n ?_ | refine t1e ?_)
      rw [endc_y hy] at eR
      (intro z ez _ _; have ez : z = N2 11 5 := ez)
      rw [H2.1] at ez
      refine ⟨by omega, ?_⟩
      (intro N3 eN3; subst eN3)
      refine J1 _ (sk B a + 1) 0 fa D' (H2.at_ (by omega)) (fun N4 H4 => k0 (by rw [eR]) N4 ?_)
      rw [eR]
      exact H4
    · (first | refine t0n ?_ | refine t0e ?_)
      rw [endc_n hy] at eR
      (intro z ez _ _; have ez : z = N2 11 5 := ez)
      rw [H2.1] at ez
      refine fail_ok H2 (by decide) (by omega) (fun _ N3 H3 => ?_) (fun z => absurd rfl z)
      refine J1 _ _ _ _ D' H3 (fun N4 H4 => k1 (by rw [eR]; show (1 : Int) ≠ 0; decide) N4 _ D' hsk ?_)
      rw [eR]
      rw [ez] at H4
      exact H4
  have J0b : ∀ (N' : Mem) (a : Nat) (D' : Int → Int), (a : Int) ≤ B 38 0 → R.1 ≠ 0 → RS N' M B a n R.1 R.2.1 D' → w_Reader_takeClause_j0 Q N' := by
    intro N' a D' ha hf H'
    have hsk : (sk B a : Int) ≤ B 38 0 := sk_L ha
    unfold w_Reader_takeClause_j0
    refine skip_ok hR H' ha (fun N2 H2 => ?_)
    refine isNext_ok hR H2 hsk (by decide) (fun hy => ?_) (fun hy => ?_)
    · (first | refine t1n ?_ | refine t1e ?_)
      (intro z ez _ _; have ez : z = N2 11 5 := ez)
      rw [H2.1] at ez
      refine ⟨by omega, ?_⟩
      (intro N3 eN3; subst eN3)
      exact J1 _ (sk B a + 1) _ _ D' (H2.at_ (by omega)) (fun N4 H4 => k1 hf N4 _ D' (by omega) H4)
    · (first | refine t0n ?_ | refine t0e ?_)
      (intro z ez _ _; have ez : z = N2 11 5 := ez)
      rw [H2.1] at ez
      exact fail_ok H2 (by decide) (by omega) (fun z => absurd z hf) (fun _ => J1 _ _ _ _ D' H2 (fun N4 H4 => k1 hf N4 _ D' hsk H4))
  unfold w_Reader_takeClause
  (intro a ea _ _; have ea : a = N 11 5 := ea)
  rw [H.1] at ea
  subst ea
  refine takeWord_ok hR H hs (fun N1 H1 => ?_)
  refine ⟨by rcases hwi with z | ⟨k, z1, z2, z3⟩ <;> omega, fun h20 => ?_, fun h20 => ?_⟩
  · rw [if_neg (by omega)] at eC
    obtain ⟨w, ew, hw2, _⟩ := hwi.resolve_left (by omega)
    rw [ew] at eC h20 ⊢
    (intro n' en' _ _; have en' : n' = N1 11 6 := en')
    rw [H1.2.1] at en'
    refine ⟨fun h12 => ⟨by omega, fun h25 => ?_, fun h25 => ?_⟩, fun h12 => ?_⟩
    · rw [if_neg (by omega), if_neg h25] at eC
      have hw5 : w < 25 := by omega
      have hbd := bdS w hw5
      have hE := numE_ok hR hwe
      refine lowest_ok hw5 (highest_ok hw5 ?_)
      refine takeNumber_ok hR H1 hwe (by omega) (by omega) (fun eF N2 H2 => ?_) (fun eF N2 H2 => ?_)
      · have hv := numV_in eF
        refine ⟨⟨by omega, by omega⟩, ?_⟩
        (intro N3 eN3; subst eN3)
        rw [rul_y eF] at eC
        exact J0a _ _ _ hE.2 H2.dr eC
      · rw [rul_n eF, endc_bad (show numF B (we B s) (loS w) (hiS w) ≠ 0 from eF)] at eC
        refine ⟨⟨by omega, by omega⟩, ?_⟩
        (intro N3 eN3; subst eN3)
        refine J0b _ _ (putD D w (loS w)) hE.2 (by rw [eC]; exact eF) ?_
        rw [eC]
        exact H2.dr
    · rw [if_neg (by omega), if_pos h25] at eC
      refine takeKind_ok hR H1 hwe (fun N2 a2 D2 ha2 H2 e2 => J0a N2 a2 D2 ha2 H2 (by rw [eC]; exact e2)) (fun N2 a2 D2 ha2 hf2 H2 => J0b N2 a2 D2 ha2 (by rw [eC]; exact hf2) (by rw [eC]; exact H2))
    · rw [if_pos (by omega)] at eC
      refine fail_ok H1 (by decide) (by omega) (fun _ N2 H2 => J0b N2 _ D hwe (by rw [eC]; show (4 : Int) ≠ 0; decide) ?_) (fun z => absurd rfl z)
      rw [eC]
      exact H2
  · rw [if_pos (by omega)] at eC
    refine fail_ok H1 (by decide) (by omega) (fun _ N2 H2 => J0b N2 _ D hwe (by rw [eC]; show (1 : Int) ≠ 0; decide) ?_) (fun z => absurd rfl z)
    rw [eC]
    exact H2
/-- what the reader leaves -/
def PS (N M : Mem) (f fa : Int) (D : Int → Int) : Prop := N 11 2 = f ∧ N 11 3 = fa ∧ (∀ j : Int, 0 ≤ j → j < 25 → N 51 j = D j) ∧ N 11 1 = 0 ∧ N 52 = M 52 ∧ (∀ h, h ≠ 11 → h ≠ 51 → N h = M h)
noncomputable def rdR (B : Mem) : Int × Res := prs B 200 0 (sk B 0) fiS
theorem parse_ok {Q : Int → Mem → Prop} (hC : CB M B) (hR : RB B) (k0 : (rdR B).2.1 = 0 → ∀ N, PS N M 0 (-1) (rdR B).2.2.2.2 → Q (rdR B).1 N) (k1 : (rdR B).2.1 ≠ 0 → ∀ N x D, PS N M (rdR B).2.1 (rdR B).2.2.1 D → Q x N) : w_Reader_parse M Q := by
  have ht := b_tlen hR 0
  have J0 : ∀ N a n g y D, RS N M B a n g y D → 0 ≤ n ∧ n ≤ 201 → (∀ N', PS N' M g y D → Q n N') → w_Reader_parse_j0 Q N := by
    intro N a n g y D H hn kk
    unfold w_Reader_parse_j0
    (intro N1 eN1; subst eN1)
    intro x ex _ _
    rw [ms_n (by decide), H.2.1] at ex
    rw [ex]
    obtain ⟨h1, h2, h3, h4, h5, h6, h7, h8⟩ := H
    refine kk _ ⟨by rw [ms_n (by decide)]; exact h3, by rw [ms_n (by decide)]; exact h4, fun j a b => by rw [mset_ne (by decide)]; exact h5 j a b, ms_s, by rw [mset_ne (by decide), h7, c_text hC], fun h a b => by rw [mset_ne a]; exact h8 h a b⟩
  -- the clauses
  have L1 : ∀ N, RS N M B (sk B 0) 0 0 (-1) fiS → w_Reader_parse_L1 Q 0 N := by
    intro N H
    unfold w_Reader_parse_L1
    intro X hX
    have key : ∀ (d i p : Nat) (N : Mem) (D : Int → Int), i + d = 200 → i ≤ p → (p : Int) ≤ B 38 0 → RS N M B p i 0 (-1) D → okDr D → prs B d i p D = rdR B → X i N := by
      intro d
      induction d with
      | zero =>
        intro i p N D hd hip hp H hD e
        have e : ((i : Int), (0 : Int), (-1 : Int), p, D) = rdR B := e
        apply hX
        unfold w_Reader_parse_B1
        refine ⟨by omega, fun _ => J0 N p i 0 (-1) D H (by omega) (fun N' P => ?_), fun h => absurd h (by omega)⟩
        rw [← e] at k0
        exact k0 rfl N' P
      | succ d ih =>
        intro i p N D hd hip hp H hD e
        apply hX
        unfold w_Reader_parse_B1
        refine ⟨by omega, fun h => absurd h (by omega), fun _ => ?_⟩
        (intro a ea _ _; have ea : a = N 11 5 := ea)
        rw [H.1] at ea
        (intro b eb _ _; have eb : b = N 11 1 := eb)
        rw [H.2.2.2.2.2.1] at eb
        unfold prs at e
        refine ⟨fun h => ?_, fun h => ?_⟩
        · rw [if_neg (by omega)] at e
          refine J0 N p i 0 (-1) D H (by omega) (fun N' P => ?_)
          rw [← e] at k0
          exact k0 rfl N' P
        · rw [if_pos (by omega)] at e
          (intro g eg _ _; have eg : g = N 11 2 := eg)
          rw [H.2.2.1] at eg
          refine ⟨fun w => absurd eg w, fun _ => ?_⟩
          refine takeClause_ok hR H hp (by omega) (fun hz N1 H1 => ?_) (fun hz N1 a1 D1 ha1 H1 => ?_)
          · rw [if_pos hz] at e
            have ok := cls_ok hR hp hD hz
            refine skip_ok hR H1 ok.2.1 (fun N2 H2 => ?_)
            have hsk := sk_le (B := B) (cls B i p D).2.2.1
            exact ih (i + 1) _ N2 _ (by omega) (by omega) (sk_L ok.2.1) H2 ok.2.2 e
          · rw [if_neg hz] at e
            refine skip_ok hR H1 ha1 (fun N2 H2 => ?_)
            apply hX
            unfold w_Reader_parse_B1
            have stop : w_Reader_parse_j0 Q N2 := J0 N2 _ _ _ _ D1 H2 (by omega) (fun N' P => by
              rw [← e] at k1
              exact k1 hz N' _ D1 P)
            refine ⟨by omega, fun _ => stop, fun _ => ?_⟩
            (intro a2 ea2 _ _; have ea2 : a2 = N2 11 5 := ea2)
            (intro b2 eb2 _ _; have eb2 : b2 = N2 11 1 := eb2)
            refine ⟨fun _ => stop, fun _ => ?_⟩
            (intro g2 eg2 _ _; have eg2 : g2 = N2 11 2 := eg2)
            rw [H2.2.2.1] at eg2
            exact ⟨fun _ => stop, fun w => absurd (eg2.symm.trans w) hz⟩
    exact key 200 0 (sk B 0) N fiS (by decide) (by omega) (sk_L (by omega)) H (fun s hs => (bdS s hs).2.2) rfl
  unfold w_Reader_parse
  (intro M1 eM1; subst eM1)
  (intro M2 eM2; subst eM2)
  (intro M3 eM3; subst eM3)
  (intro M4 eM4; subst eM4)
  unfold w_Reader_parse_L0
  intro X hX
  have key : ∀ (d i : Nat) (N : Mem), i + d = 25 → N 11 5 = 0 → N 11 6 = 0 → N 11 2 = 0 → N 11 3 = -1 → (∀ j : Nat, j < i → N 51 j = fiS j) → N 11 1 = B 38 0 → N 52 = B 37 → (∀ h, h ≠ 11 → h ≠ 51 → N h = M h) → X i N := by
    intro d
    induction d with
    | zero =>
      intro i N hd h1 h2 h3 h4 h5 h6 h7 h8
      apply hX
      unfold w_Reader_parse_B0
      refine ⟨by omega, fun _ => skip_ok hR (p := 0) (c := 0) (f := 0) (fa := -1) (D := fiS) (M := M) ⟨h1, h2, h3, h4, fun j a b => ?_, h6, h7, h8⟩ (by omega) (fun N' H' => L1 N' H'), fun h => absurd h (by omega)⟩
      have := h5 j.toNat (by omega)
      rw [(show ((j.toNat : Nat) : Int) = j by omega)] at this
      exact this
    | succ d ih =>
      intro i N hd h1 h2 h3 h4 h5 h6 h7 h8
      have hb := bdS i (by omega)
      apply hX
      unfold w_Reader_parse_B0
      refine ⟨by omega, fun h => absurd h (by omega), fun _ => ?_⟩
      refine first_ok (by omega) ⟨⟨by omega, by omega⟩, ?_⟩
      (intro N1 eN1; subst eN1)
      refine ih (i + 1) _ (by omega) (by rw [mset_ne (by decide)]; exact h1) (by rw [mset_ne (by decide)]; exact h2) (by rw [mset_ne (by decide)]; exact h3) (by rw [mset_ne (by decide)]; exact h4) (fun j hj => ?_) (by rw [mset_ne (by decide)]; exact h6) (by rw [mset_ne (by decide)]; exact h7) (fun h a b => by rw [mset_ne b]; exact h8 h a b)
      by_cases e : j = i
      · rw [e, ms_s]
      · rw [ms_n (by omega)]; exact h5 j (by omega)
  refine key 25 0 _ (by decide) ?_ ?_ ?_ ?_ (fun j hj => absurd hj (by omega)) ?_ ?_ (fun h a b => by rw [mset_ne a, mset_ne a, mset_ne a, mset_ne a])
  · rw [ms_n (by decide), ms_n (by decide), ms_n (by decide), ms_s]
  · rw [ms_n (by decide), ms_n (by decide), ms_s]
  · rw [ms_n (by decide), ms_s]
  · rw [ms_s]
  · rw [ms_n (by decide), ms_n (by decide), ms_n (by decide), ms_n (by decide), c_tlen hC]
  · rw [mset_ne (by decide), mset_ne (by decide), mset_ne (by decide), mset_ne (by decide), c_text hC]
end CREAD2
