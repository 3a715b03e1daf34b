/-! ===== the class's look, whole ===== -/
section LOOK3
variable {M N O B : Mem}
theorem choicesOf_ok {c : Int} {Q : Int → Prop} (hC : CB M B) (hR : RB B) (c0 : 0 ≤ c) (c6 : c < 6) (kk : Q (many B c (nly B c))) : w_Ground_choicesOf M c Q := by
  obtain ⟨hn, hn6⟩ := nly_i hR c
  unfold w_Ground_choicesOf w_Ground_choicesOf_L0
  intro X hX
  have key : ∀ (d i : Nat), i + d = nly B c → X (many B c i) i := by
    intro d
    induction d with
    | zero =>
      intro i hi
      apply hX
      unfold w_Ground_choicesOf_B0
      refine ⟨⟨c0, c6⟩, ?_⟩
      (intro a ea _ _; have ea : a = M 21 c := ea)
      rw [c_layers hC, hn] at ea
      rw [Nat.add_zero] at hi
      refine ⟨by omega, fun _ => by rw [hi]; exact kk, fun h => absurd h (by omega)⟩
    | succ d ih =>
      intro i hi
      apply hX
      unfold w_Ground_choicesOf_B0
      refine ⟨⟨c0, c6⟩, ?_⟩
      (intro a ea _ _; have ea : a = M 21 c := ea)
      rw [c_layers hC, hn] at ea
      refine ⟨by omega, fun h => absurd h (by omega), fun _ => ⟨by omega, ?_⟩⟩
      (intro b eb _ _; have eb : b = M 24 (c * 6 + i) := eb)
      rw [c_values hC] at eb
      subst eb
      exact ih (i + 1) (by omega)
  exact key (nly B c) 0 (by omega)
theorem Aw.cg {c : Int} {D D' : Nat → Prop} (h : Aw M B c D) (e : ∀ j, D' j ↔ D j) : Aw M B c D' := fun p p0 p1 => by
  obtain ⟨y, h1, h2, h3⟩ := h p p0 p1
  exact ⟨y, h1, h2, fun j => (h3 j).trans (and_congr (e j).symm Iff.rfl)⟩
/-- what a look may change -/
def FrK (M N : Mem) : Prop := (∀ h, h ≠ 1 → h ≠ 13 → h ≠ 14 → h ≠ 15 → h ≠ 16 → h ≠ 17 → h ≠ 18 → h ≠ 36 → h ≠ 37 → h ≠ 5 → N h = M h) ∧ ∀ k : Int, k ≠ 9 → N 5 k = M 5 k
theorem FrK.rf : FrK M M := ⟨fun _ _ _ _ _ _ _ _ _ _ _ => rfl, fun _ _ => rfl⟩
theorem FrK.trans (h1 : FrK M N) (h2 : FrK N O) : FrK M O := ⟨fun h a b c d e f g i j k => (h2.1 h a b c d e f g i j k).trans (h1.1 h a b c d e f g i j k), fun k hk => (h2.2 k hk).trans (h1.2 k hk)⟩
theorem FrL.k (h : FrL M N) : FrK M N := ⟨fun x a b c d e f g i j _ => h x a b c d e f g i j, fun k _ => congrFun (h 5 (by decide) (by decide) (by decide) (by decide) (by decide) (by decide) (by decide) (by decide) (by decide)) k⟩
theorem FrK.km (h : FrK M N) : sme kM M N := sme.of (fun q hq => h.1 q.1 (by revert q; decide) (by revert q; decide) (by revert q; decide) (by revert q; decide) (by revert q; decide) (by revert q; decide) (by revert q; decide) (by revert q; decide) (by revert q; decide) (by revert q; decide))
theorem look_all_ok {c : Nat} {Q : Mem → Prop} (I : Inv M B) (hc6 : c < 6) (kk : ∀ N, Inv N B → N 5 9 / 2 ^ c % 2 = 1 → FrK M N → (∀ j : Nat, M 5 9 / 2 ^ j % 2 = 1 → N 5 9 / 2 ^ j % 2 = 1) → Q N) : w_Words_look M c Q := by
  obtain ⟨hC, hM, hR, hW, hS, hCC, hCM⟩ := id I
  have c0 : (0 : Int) ≤ c := by omega
  have c6 : (c : Int) < 6 := by omega
  have hma := many_all hR hW c0 c6
  have hwd := b_words hR 0
  have hsh := b_shakes hR 0
  unfold w_Words_look
  intro a ea a0 a1
  have ex : a = (a.toNat : Nat) := by omega
  have hb := bit_and1 (x := a.toNat) (k := c) (by omega) (by omega)
  rw [← ex] at hb
  rw [hb, ea]
  have hbr : 0 ≤ M 5 9 / 2 ^ c % 2 ∧ M 5 9 / 2 ^ c % 2 ≤ 1 := by omega
  refine ⟨by omega, fun h0 => ?_, fun h1 => kk M I h1 FrK.rf (fun _ h => h)⟩
  refine choicesOf_ok hC hR c0 c6 ⟨by omega, ?_⟩
  (intro M1 eM1; subst eM1)
  -- the mark behind it
  have fin : ∀ N : Mem, FrL M N → N 36 = (mset M 36 c (many B c (nly B c))) 36 → Oth M N c → Aw N B c (fun j => j < (B 11 0).toNat ∧ B 12 j = c) → ∀ b : Int, b = N 5 9 → 0 ≤ b → b ≤ 63 → (0 ≤ bOr b (bShl 1 c) ∧ bOr b (bShl 1 c) ≤ 63) ∧ (∀ M9 : Mem, M9 = mset N 5 9 (bOr b (bShl 1 c)) → Q M9) := by
    intro N f1 f2 f3 f4 b eb _ _
    have ew : N 5 = M 5 := f1 _ (by decide) (by decide) (by decide) (by decide) (by decide) (by decide) (by decide) (by decide) (by decide)
    rw [ew, ← ea] at eb
    subst eb
    have p6 : (2 : Nat) ^ c < 64 := Nat.pow_lt_pow_right (by decide) (show c < 6 from hc6)
    have e1 : bShl 1 c = ((2 ^ c : Nat) : Int) := by
      have := bShl_nat (x := 1) (k := c) (by omega) (by omega)
      rw [Nat.one_mul] at this
      exact this
    have e2 : bOr b (bShl 1 c) = ((b.toNat ||| 2 ^ c : Nat) : Int) := by
      rw [e1]
      conv => lhs; rw [ex]
      exact bOr_nat (by omega) (by omega)
    have ho : b.toNat ||| 2 ^ c < 64 := Nat.or_lt_two_pow (n := 6) (by omega) p6
    rw [e2]
    refine ⟨by omega, ?_⟩
    (intro N9 eN9; subst eN9)
    have fk : FrK M (mset N 5 9 ((b.toNat ||| 2 ^ c : Nat) : Int)) := ⟨fun x a b c d e f g i j k => by rw [mset_ne k]; exact f1 x a b c d e f g i j, fun k hk => by rw [ms_n hk]; exact congrFun ew k⟩
    have bits : ∀ c' : Nat, ((b.toNat ||| 2 ^ c : Nat) : Int) / 2 ^ c' % 2 = if c' = c then 1 else M 5 9 / 2 ^ c' % 2 := by
      intro c'
      have e3 : M 5 9 = (b.toNat : Nat) := by omega
      rw [bit_nat, Nat.testBit_or, Nat.testBit_two_pow, e3, bit_nat]
      by_cases e : c' = c
      · rw [if_pos e, if_pos (by rw [Bool.or_eq_true, decide_eq_true_eq]; exact Or.inr e.symm)]
      · rw [if_neg e]
        have : (b.toNat.testBit c' || decide (c = c')) = b.toNat.testBit c' := by
          rw [decide_eq_false (fun z => e z.symm), Bool.or_false]
        rw [this]
    refine kk _ ⟨agr.skipF (f1.cb hC) 5 (by decide), hM.km fk.km, hR, hW, ?_, CC.of (fun c' hc' hl => ?_), hCM.km fk.km⟩ (by rw [ms_s, bits, if_pos rfl]) fk (fun j hj => by rw [ms_s, bits]; by_cases e : j = c; rw [if_pos e]; rw [if_neg e]; exact hj)
    · intro i hi
      rw [fk.2 _ (by decide)]
      exact hS i hi
    · rw [ms_s, bits] at hl
      rw [mset_ne (by decide), mset_ne (by decide), f2]
      by_cases e : c' = c
      · subst e
        refine ⟨ms_s, fun p p0 p1 => ?_⟩
        obtain ⟨y, y1, y2, y3⟩ := f4 p p0 p1
        obtain ⟨Y, Y1, Y2, Y3⟩ := setN_bit (fun i => B 12 i = c' ∧ bar1 B c' (dig B c' p) i) (B 11 0).toNat
        rw [y1]
        unfold agst
        rw [Y1]
        have : y = Y := Nat.eq_of_testBit_eq (fun j => by
          rw [Bool.eq_iff_iff, y3, Y3]
          exact and_assoc)
        rw [this]
      · rw [if_neg e] at hl
        have := hCC.at hc' hl
        have hm' := many_all (c := c') hR hW (by omega) (by omega)
        refine ⟨by rw [ms_n (by omega)]; exact this.1, fun p p0 p1 => ?_⟩
        rw [f3 _ (by omega)]
        exact this.2 p p0 p1
  have f00 : FrL M (mset M 36 c (many B c (nly B c))) := FrL.rf.sC
  have g00 : (mset M 36 c (many B c (nly B c))) 36 c = many B c (nly B c) := ms_s
  -- runs
  have L2 : ∀ N : Mem, FrL M N → N 36 = (mset M 36 c (many B c (nly B c))) 36 → Oth M N c → Aw N B c (fun j => j < (B 11 0).toNat ∧ B 12 j = c ∧ B 13 j = 2) → w_Words_look_L2 Q c 0 N := by
    intro N0 f1 f2 f3 f4
    unfold w_Words_look_L2
    intro X hX
    have key : ∀ (d q : Nat) (N : Mem), q + d = (B 20 0).toNat → FrL M N → N 36 = (mset M 36 c (many B c (nly B c))) 36 → Oth M N c → Aw N B c (fun j => j < (B 11 0).toNat ∧ B 12 j = c ∧ (B 13 j = 2 ∨ (B 13 j ≠ 2 ∧ B 14 j < q))) → X q N := by
      intro d
      induction d with
      | zero =>
        intro q N hq g1 g2 g3 g4
        apply hX
        unfold w_Words_look_B2
        (intro s es _ _; have es : s = N 3 3 := es)
        rw [c_shakes (g1.cb hC)] at es
        refine ⟨by omega, fun _ => fin N g1 g2 g3 (g4.cg (fun j => ⟨fun z => ⟨z.1, z.2, ?_⟩, fun z => ⟨z.1, z.2.1⟩⟩)), fun h => absurd h (by omega)⟩
        by_cases e : B 13 j = 2
        · exact Or.inl e
        · have := (hW.2.2.2.2.2.2.2.2.1 j (by omega) (by omega)).2 e
          exact Or.inr ⟨e, by omega⟩
      | succ d ih =>
        intro q N hq g1 g2 g3 g4
        have hCN := g1.cb hC
        have more : ∀ (y0 y1 : Nat), (∀ j, (y0.testBit j = true ↔ j < (B 11 0).toNat ∧ B 12 j = c ∧ B 13 j = 0 ∧ B 14 j = q)) → (∀ j, (y1.testBit j = true ↔ j < (B 11 0).toNat ∧ B 12 j = c ∧ B 13 j = 1 ∧ B 14 j = q)) → ∀ j, (j < (B 11 0).toNat ∧ B 12 j = c ∧ (B 13 j = 2 ∨ (B 13 j ≠ 2 ∧ B 14 j < (q + 1 : Nat)))) ↔ (j < (B 11 0).toNat ∧ B 12 j = c ∧ (B 13 j = 2 ∨ (B 13 j ≠ 2 ∧ B 14 j < q))) ∨ (y0.testBit j = true ∨ y1.testBit j = true) := by
          intro y0 y1 b0 b1 j
          have hk := b_wkind hR j
          rw [b0, b1]
          omega
        apply hX
        unfold w_Words_look_B2
        (intro s es _ _; have es : s = N 3 3 := es)
        rw [c_shakes hCN] at es
        refine ⟨by omega, fun h => absurd h (by omega), fun _ => ?_⟩
        refine setOf_ok hCN hR (by omega) (by decide) (by omega) (fun y0 z0 b0 => ?_)
        refine setOf_ok hCN hR (by omega) (by decide) (by omega) (fun y1 z1 b1 => ?_)
        have J0 : w_Words_look_j0 Q X c q y0 y1 N := by
          unfold w_Words_look_j0
          refine begin_ok hCN hR hW c0 c6 (fun N1 n1 n2 n3 => ?_)
          refine under_ok n1 (by omega) (by omega) (by decide) (by decide) (fun N2 u1 u2 u3 => ?_)
          have ft : FrT N N2 := n2.trans u3
          have ta : N2 37 = N 37 := ft _ (by decide) (by decide) (by decide) (by decide) (by decide) (by decide) (by decide)
          have tc : N2 36 = N 36 := ft _ (by decide) (by decide) (by decide) (by decide) (by decide) (by decide) (by decide)
          rw [← chI_zero B c] at u1 u2
          refine lookRuns_ok u1 u2 (by omega) (by omega) (by rw [tc, g2]; exact g00) (g4.fr ta) z0 z1 b0 b1 (fun N3 k1 k2 k3 k4 => ?_)
          exact ih (q + 1) N3 (by omega) ((g1.trans ft.l).trans k2) (k3.trans (tc.trans g2)) ((g3.trans (Oth.eq ta)).trans k4) (k1.cg (more y0 y1 b0 b1))
        refine ⟨by omega, fun _ => J0, fun e0 => ⟨by omega, fun e1 => ?_, fun _ => J0⟩⟩
        refine ih (q + 1) N (by omega) g1 g2 g3 (g4.cg (fun j => (more y0 y1 b0 b1 j).trans ⟨fun z => ?_, Or.inl⟩))
        have e0 : y0 = 0 := by omega
        have e1 : y1 = 0 := by omega
        rw [e0, e1, Nat.zero_testBit] at z
        rcases z with z | z | z
        · exact z
        · exact absurd z (by decide)
        · exact absurd z (by decide)
    refine key (B 20 0).toNat 0 N0 (by omega) f1 f2 f3 (f4.cg (fun j => ?_))
    have := b_wsub hR j
    omega
  -- soundings
  have L1 : ∀ N : Mem, FrL M N → N 36 = (mset M 36 c (many B c (nly B c))) 36 → Oth M N c → Aw N B c (fun _ => False) → w_Words_look_L1 Q c 0 N := by
    intro N0 f1 f2 f3 f4
    unfold w_Words_look_L1
    intro X hX
    have key : ∀ (d i : Nat) (N : Mem), i + d = (B 11 0).toNat → FrL M N → N 36 = (mset M 36 c (many B c (nly B c))) 36 → Oth M N c → Aw N B c (fun j => j < i ∧ B 12 j = c ∧ B 13 j = 2) → X i N := by
      intro d
      induction d with
      | zero =>
        intro i N hi g1 g2 g3 g4
        rw [Nat.add_zero] at hi
        rw [hi] at g4
        apply hX
        unfold w_Words_look_B1
        (intro s es _ _; have es : s = N 5 5 := es)
        rw [c_words (g1.cb hC)] at es
        exact ⟨by omega, fun _ => L2 N g1 g2 g3 g4, fun h => absurd h (by omega)⟩
      | succ d ih =>
        intro i N hi g1 g2 g3 g4
        have hCN := g1.cb hC
        have no : ¬ (B 12 i = c ∧ B 13 i = 2) → X (i + 1 : Nat) N := by
          intro h
          refine ih (i + 1) N (by omega) g1 g2 g3 (g4.cg (fun j => ⟨fun z => ⟨?_, z.2⟩, fun z => ⟨by omega, z.2⟩⟩))
          by_cases e : j = i
          · subst e; exact absurd z.2 h
          · omega
        apply hX
        unfold w_Words_look_B1
        (intro s es _ _; have es : s = N 5 5 := es)
        rw [c_words hCN] at es
        refine ⟨by omega, fun h => absurd h (by omega), fun _ => ⟨by omega, ?_⟩⟩
        (intro u eu _ _; have eu : u = N 31 i := eu)
        rw [c_wcol hCN] at eu
        refine ⟨by omega, fun h => no (fun z => h (eu.trans z.1)), fun h1 => ⟨by omega, ?_⟩⟩
        (intro v ev _ _; have ev : v = N 32 i := ev)
        rw [c_wkind hCN] at ev
        refine ⟨fun h => no (fun z => h (ev.trans z.2)), fun h2 => ?_⟩
        refine sounding_ok hCN hR hW c0 c6 (by rw [g2]; exact g00) (by omega) (eu.symm.trans h1) (ev.symm.trans h2) g4 (fun N3 k1 k2 k3 k4 => ?_)
        refine ih (i + 1) N3 (by omega) (g1.trans k2) (k3.trans g2) (g3.trans k4) (k1.cg (fun j => ⟨fun z => ?_, fun z => ?_⟩))
        · by_cases e : j = i
          · exact Or.inr e
          · exact Or.inl ⟨by omega, z.2⟩
        · rcases z with z | rfl
          · exact ⟨by omega, z.2⟩
          · exact ⟨by omega, eu.symm.trans h1, ev.symm.trans h2⟩
    exact key (B 11 0).toNat 0 N0 (by omega) f1 f2 f3 (f4.cg (fun j => ⟨fun z => absurd z.1 (by omega), False.elim⟩))
  -- the row is cleared
  unfold w_Words_look_L0
  intro X hX
  have key : ∀ (d i : Nat) (N : Mem), i + d = (many B c (nly B c)).toNat → FrL M N → N 36 = (mset M 36 c (many B c (nly B c))) 36 → Oth M N c → (∀ p : Nat, p < i → N 37 (c * 729 + p) = 0) → X i N := by
    intro d
    induction d with
    | zero =>
      intro i N hi g1 g2 g3 g4
      apply hX
      unfold w_Words_look_B0
      refine ⟨⟨c0, c6⟩, ?_⟩
      (intro s es _ _; have es : s = N 36 c := es)
      rw [g2, g00] at es
      refine ⟨by omega, fun _ => L1 N g1 g2 g3 (fun p p0 p1 => ⟨0, ?_, by decide, fun j => ?_⟩), fun h => absurd h (by omega)⟩
      · have ep : p = (p.toNat : Nat) := by omega
        rw [ep]
        exact g4 p.toNat (by omega)
      · rw [Nat.zero_testBit]
        exact ⟨fun z => absurd z (by decide), fun z => z.1.elim⟩
    | succ d ih =>
      intro i N hi g1 g2 g3 g4
      apply hX
      unfold w_Words_look_B0
      refine ⟨⟨c0, c6⟩, ?_⟩
      (intro s es _ _; have es : s = N 36 c := es)
      rw [g2, g00] at es
      refine ⟨by omega, fun h => absurd h (by omega), fun _ => ⟨by omega, ?_⟩⟩
      (intro N1 eN1; subst eN1)
      refine ih (i + 1) _ (by omega) g1.sA (by rw [mset_ne (by decide)]; exact g2) (g3.s (by omega) (by omega)) (fun p hp => ?_)
      by_cases e : p = i
      · rw [e, ms_s]
      · rw [ms_n (by omega)]; exact g4 p (by omega)
  exact key (many B c (nly B c)).toNat 0 _ (by omega) f00 rfl (Oth.eq (mset_ne (by decide))) (fun p hp => absurd hp (by omega))
theorem look_ok {c : Nat} {Q : Mem → Prop} (I : Inv M B) (hc6 : c < 6) (kk : ∀ N, Inv N B → N 5 9 / 2 ^ c % 2 = 1 → FrK M N → Q N) : w_Words_look M c Q := look_all_ok I hc6 (fun N a b d _ => kk N a b d)
end LOOK3
