-- feed
theorem lAnd255 (a : Int) : 0 ≤ lAnd a 255 ∧ lAnd a 255 ≤ 255 := by
  unfold lAnd
  have h : (Int64.ofInt a &&& Int64.ofInt 255).toBitVec.toNat ≤ 255 := by
    rw [Int64.toBitVec_and, BitVec.toNat_and]
    exact Nat.and_le_right
  have e : (Int64.ofInt a &&& Int64.ofInt 255).toBitVec.toInt = ((Int64.ofInt a &&& Int64.ofInt 255).toBitVec.toNat : Int) := BitVec.toInt_eq_toNat_of_lt (by omega)
  have e2 : (Int64.ofInt a &&& Int64.ofInt 255).toInt = (Int64.ofInt a &&& Int64.ofInt 255).toBitVec.toInt := rfl
  rw [e2, e]
  omega
abbrev byt (x k : Int) : Int := lAnd (lShr x (8 * k)) 255
abbrev fd1 (B : Mem) (z : Int) : Mem := mset (mset B 37 (B 38 0) z) 38 0 (B 38 0 + 1)
def fdB (x : Int) : Nat → Mem → Mem
  | 0, B => B
  | k + 1, B => fdB x k (fd1 B (byt x k))
theorem fdB_len (x : Int) : ∀ (k : Nat) (B : Mem), (fdB x k B) 38 0 = B 38 0 + k
  | 0, B => by simp [fdB]
  | k + 1, B => by
    unfold fdB
    rw [fdB_len x k]
    show B 38 0 + 1 + (k : Int) = B 38 0 + ((k : Int) + 1)
    omega
theorem fdB_hi (x : Int) : ∀ (k : Nat) (B : Mem), cut (fdB x k B) = cut B ∧ (fdB x k B) 22 = B 22 ∧ (WF B → WF (fdB x k B)) ∧ (RB B → B 38 0 + k ≤ 200 → RB (fdB x k B))
  | 0, B => ⟨rfl, rfl, id, fun h _ => h⟩
  | k + 1, B => by
    obtain ⟨h1, h2, h3, h4⟩ := fdB_hi x k (fd1 B (byt x k))
    refine ⟨h1.trans ((cut_hi (by decide)).trans (cut_hi (by decide))), h2, fun hW => h3 (hW.cg rfl rfl rfl rfl rfl rfl rfl rfl rfl rfl rfl rfl rfl rfl rfl rfl), fun hR hl => h4 ?_ ?_⟩
    · have := b_tlen hR 0
      have := lAnd255 (lShr x (8 * k))
      exact (hR.set 37 this.1 this.2).set 38 (show (0 : Int) ≤ _ by omega) (show _ ≤ (200 : Int) by omega)
    · show B 38 0 + 1 + (k : Int) ≤ 200
      omega
theorem append_ok {x : Int} {Q : Mem → Prop} (n : Nat) {M B : Mem} (hC : CB M B) (hR : RB B) (hl : B 38 0 + n ≤ 200) (hn : n ≤ 8) (k : ∀ N, CB N (fdB x n B) → (∀ h, h ≠ 52 → h ≠ 11 → N h = M h) → Q N) : w_Reader_append M n x Q := by
  unfold w_Reader_append w_Reader_append_L0
  intro X hX
  have key : ∀ (i : Nat) (M B : Mem), CB M B → RB B → B 38 0 + i ≤ 200 → i ≤ 8 → (∀ N, CB N (fdB x i B) → (∀ h, h ≠ 52 → h ≠ 11 → N h = M h) → Q N) → X ((i : Int) - 1) M := by
    intro i
    induction i with
    | zero =>
      intro M B hC hR hl hi k
      apply hX
      unfold w_Reader_append_B0
      exact ⟨by omega, fun _ => k M hC (fun _ _ _ => rfl), fun h => absurd (show (((0 : Nat) : Int) - 1 < 0) by omega) h⟩
    | succ i ih =>
      intro M B hC hR hl hi k
      have hb := lAnd255 (lShr x (8 * (i : Int)))
      have ht := b_tlen hR 0
      apply hX
      unfold w_Reader_append_B0
      rw [show ((i + 1 : Nat) : Int) - 1 = i by omega]
      refine ⟨by omega, fun h => absurd h (by omega), fun _ => ?_⟩
      (intro a ea _ _; have ea : a = M 11 1 := ea)
      rw [c_tlen hC] at ea
      refine ⟨fun h => absurd h (by omega), fun _ => ?_⟩
      (intro b eb _ _; have eb : b = M 11 1 := eb)
      rw [c_tlen hC] at eb
      subst eb
      refine And.intro ⟨by omega, by omega⟩ ?_
      (intro N1 eN1; subst eN1)
      (intro d ed _ _; have ed : d = M 11 1 := ed)
      rw [c_tlen hC] at ed
      subst ed
      refine And.intro (by omega) ?_
      (intro N2 eN2; subst eN2)
      rw [show (i : Int) + (-1) = (i : Int) - 1 by omega]
      refine ih _ (fd1 B (byt x i)) ((hC.setA 37 52 (by decide)).setF 38 11 (by decide)) ((hR.set 37 hb.1 hb.2).set 38 (show (0 : Int) ≤ _ by omega) (show _ ≤ (200 : Int) by omega)) (by show B 38 0 + 1 + (i : Int) ≤ 200; omega) (by omega) (fun N hN ho => k N hN (fun h h1 h2 => ?_))
      rw [ho h h1 h2, mset_ne h2, mset_ne h1]
  exact key n M B hC hR hl hn k
theorem m_feed_L {x : Int} {Q : Int → Mem → Prop} (n : Nat) {M B : Mem} (hM : MB M B) (hR : RB B) (hl : B 38 0 + n ≤ 200) (hn : n ≤ 8) (k : ∀ N, MB N (fdB x n B) → (∀ h, h ≠ 98 → h ≠ 12 → N h = M h) → Q (B 38 0 + n) N) : w_m_feed_L0 Q x ((n : Int) - 1) M := by
  unfold w_m_feed_L0
  intro X hX
  have key : ∀ (i : Nat) (M B : Mem), MB M B → RB B → B 38 0 + i ≤ 200 → i ≤ 8 → (∀ N, MB N (fdB x i B) → (∀ h, h ≠ 98 → h ≠ 12 → N h = M h) → Q (B 38 0 + i) N) → X ((i : Int) - 1) M := by
    intro i
    induction i with
    | zero =>
      intro M B hM hR hl hi k
      apply hX
      unfold w_m_feed_B0
      refine ⟨by omega, fun _ => ?_, fun h => absurd (show (((0 : Nat) : Int) - 1 < 0) by omega) h⟩
      (intro a ea _ _; have ea : a = M 12 60 := ea)
      have := k M hM (fun _ _ _ => rfl)
      rw [ea, m_tlen hM, show B 38 0 = B 38 0 + ((0 : Nat) : Int) by omega]
      exact this
    | succ i ih =>
      intro M B hM hR hl hi k
      have hb := lAnd255 (lShr x (8 * (i : Int)))
      have ht := b_tlen hR 0
      apply hX
      unfold w_m_feed_B0
      rw [show ((i + 1 : Nat) : Int) - 1 = i by omega]
      refine ⟨by omega, fun h => absurd h (by omega), fun _ => ?_⟩
      (intro b eb _ _; have eb : b = M 12 60 := eb)
      rw [m_tlen hM] at eb
      subst eb
      refine And.intro ⟨by omega, by omega⟩ ?_
      (intro N1 eN1; subst eN1)
      (intro d ed _ _; have ed : d = M 12 60 := ed)
      rw [m_tlen hM] at ed
      subst ed
      refine And.intro (by omega) ?_
      (intro N2 eN2; subst eN2)
      rw [show (i : Int) + (-1) = (i : Int) - 1 by omega]
      refine ih _ (fd1 B (byt x i)) ((hM.setA 37 98 (by decide)).setF 38 12 (by decide)) ((hR.set 37 hb.1 hb.2).set 38 (show (0 : Int) ≤ _ by omega) (show _ ≤ (200 : Int) by omega)) (by show B 38 0 + 1 + (i : Int) ≤ 200; omega) (by omega) (fun N hN ho => ?_)
      have := k N hN (fun h h1 h2 => by rw [ho h h1 h2, mset_ne h2, mset_ne h1])
      rw [show (fd1 B (byt x i)) 38 0 + (i : Int) = B 38 0 + ((i + 1 : Nat) : Int) by show B 38 0 + 1 + (i : Int) = _; omega]
      exact this
  exact key n M B hM hR hl hn k
theorem both_feed {M B : Mem} {n x : Int} {Q : Int → Int → Mem → Prop} (I : Inv M B) (hn : R32 n) (k : ∀ (r : Int) (N B' : Mem), Inv N B' → Q r r N) : w_S_feed M n x (fun r M1 => w_m_feed M1 n x (fun r2 M2 => Q r r2 M2)) := by
  obtain ⟨hC, hM, hR, hW, hS, hCC, hCM⟩ := id I
  have ht := b_tlen hR 0
  unfold w_S_feed
  refine S_beyond_ok hn (by decide) (by decide) (fun h => ?_) (fun n0 n1 => ?_)
  · (first | refine t1n ?_ | refine t1e ?_)
    unfold w_m_feed
    refine ⟨hn, m_in_ok hn (by decide) (by decide) (fun _ => ?_) (fun a b => absurd h (by omega))⟩
    (first | refine t0n ?_ | refine t0e ?_)
    exact k _ _ _ I
  (first | refine t0n ?_ | refine t0e ?_)
  (intro a ea _ _; have ea : a = M 11 1 := ea)
  rw [c_tlen hC] at ea
  refine ⟨by omega, fun h => ?_, fun h => ?_⟩
  · obtain ⟨j, rfl⟩ : ∃ j : Nat, n = j := ⟨n.toNat, by omega⟩
    refine append_ok j hC hR (by omega) (by omega) (fun N hN ho => ?_)
    (intro b eb _ _; have eb : b = N 11 1 := eb)
    rw [c_tlen hN, fdB_len] at eb
    obtain ⟨f1, f2, f3, f4⟩ := fdB_hi x j B
    have hk : sme kM M N := sme.of (fun q hq => ho q.1 (by clear ho; revert q; decide) (by clear ho; revert q; decide))
    have hM1 := hM.km hk
    have hCC1 : CC N (fdB x j B) := CC.cg (fun c hc hl => by rw [ho 5 (by decide) (by decide)] at hl; rw [ho 36 (by decide) (by decide), ho 37 (by decide) (by decide)]; exact hCC c hc hl) f1
    have H : Half N B (fdB x j B) := ⟨hN, hM1, f4 hR (by omega), f3 hW, fun i hi => by rw [ho 5 (by decide) (by decide), f2]; exact hS i hi, hCC1⟩
    unfold w_m_feed
    refine ⟨hn, m_in_ok hn (by decide) (by decide) (fun z => absurd z (by omega)) (fun _ _ => ?_)⟩
    (first | refine t1n ?_ | refine t1e ?_)
    (intro d ed _ _; have ed : d = N 12 60 := ed)
    rw [m_tlen hM1] at ed
    refine ⟨by omega, fun _ => ?_, fun z => absurd z (by omega)⟩
    refine m_feed_L j hM1 hR (by omega) (by omega) (fun O hO ho2 => ?_)
    rw [eb]
    have hcm : CM O B := fun c h0 hc hl => by
      rw [ho2 66 (by decide) (by decide)] at hl
      rw [ho2 67 (by decide) (by decide), ho2 82 (by decide) (by decide)]
      exact (hCM.km hk) c h0 hc hl
    exact k _ _ _ (H.inv (sme.of (fun q hq => ho2 q.1 (by clear ho ho2; revert q; decide) (by clear ho ho2; revert q; decide))) hO (hcm.cg f1 f2))
  · unfold w_m_feed
    refine ⟨hn, m_in_ok hn (by decide) (by decide) (fun z => absurd z (by omega)) (fun _ _ => ?_)⟩
    (first | refine t1n ?_ | refine t1e ?_)
    (intro d ed _ _; have ed : d = M 12 60 := ed)
    rw [m_tlen hM] at ed
    exact ⟨by omega, fun z => absurd z (by omega), fun _ => k _ _ _ I⟩
