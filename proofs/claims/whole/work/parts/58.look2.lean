/-! ===== the class looks by runs ===== -/
section LOOK2
variable {M N O B : Mem} {c q : Int}
theorem setOf_ok {kd a : Int} {Q : Int → Prop} (hC : CB M B) (hR : RB B) (hc : R32 c) (hk : R32 kd) (ha : R32 a)
    (kk : ∀ y : Nat, y < 65536 → (∀ j, (y.testBit j = true ↔ j < (B 11 0).toNat ∧ B 12 j = c ∧ B 13 j = kd ∧ B 14 j = a)) → Q y) : w_Words_setOf M c kd a Q := by
  have hwd := b_words hR 0
  obtain ⟨Y, hY, hY2, hY3⟩ := setN_bit (fun j => B 12 j = c ∧ B 13 j = kd ∧ B 14 j = a) (B 11 0).toNat
  have hY4 : Y < 65536 := Nat.lt_of_lt_of_le hY2 (Nat.pow_le_pow_right (n := 2) (i := (B 11 0).toNat) (j := 16) (by decide) (by omega))
  unfold w_Words_setOf w_Words_setOf_L0
  intro X hX
  have key : ∀ (d i : Nat), i + d = (B 11 0).toNat → X (setN (fun j => B 12 j = c ∧ B 13 j = kd ∧ B 14 j = a) i) i := by
    intro d
    induction d with
    | zero =>
      intro i hi
      rw [Nat.add_zero] at hi
      apply hX
      unfold w_Words_setOf_B0
      (intro x ex _ _; have ex : x = M 5 5 := ex)
      rw [c_words hC] at ex
      refine ⟨by omega, fun _ => by rw [hi, hY]; exact kk Y hY4 hY3, fun h => absurd h (by omega)⟩
    | succ d ih =>
      intro i hi
      obtain ⟨y, hy, hy2⟩ := setN_nat (fun j => B 12 j = c ∧ B 13 j = kd ∧ B 14 j = a) i
      have st := ih (i + 1) (by omega)
      have no : ¬ (B 12 i = c ∧ B 13 i = kd ∧ B 14 i = a) → X (setN (fun j => B 12 j = c ∧ B 13 j = kd ∧ B 14 j = a) i) (i + 1) := by
        intro h
        have e : setN (fun j => B 12 j = c ∧ B 13 j = kd ∧ B 14 j = a) (i + 1) = setN (fun j => B 12 j = c ∧ B 13 j = kd ∧ B 14 j = a) i := by
          show setN (fun j => B 12 j = c ∧ B 13 j = kd ∧ B 14 j = a) i + _ = _
          rw [if_neg h, Int.add_zero]
        rw [e] at st
        exact st
      apply hX
      unfold w_Words_setOf_B0
      (intro x ex _ _; have ex : x = M 5 5 := ex)
      rw [c_words hC] at ex
      refine ⟨by omega, fun h => absurd h (by omega), fun _ => ⟨by omega, ?_⟩⟩
      (intro u eu _ _; have eu : u = M 31 i := eu)
      rw [c_wcol hC] at eu
      refine ⟨hc, fun h => no (fun z => h (eu.trans z.1)), fun h1 => ⟨by omega, ?_⟩⟩
      (intro v ev _ _; have ev : v = M 32 i := ev)
      rw [c_wkind hC] at ev
      refine ⟨hk, fun h => no (fun z => h (ev.trans z.2.1)), fun h2 => ⟨by omega, ?_⟩⟩
      (intro w ew _ _; have ew : w = M 33 i := ew)
      rw [c_wsub hC] at ew
      refine ⟨ha, fun h => no (fun z => h (ew.trans z.2.2)), fun h3 => ?_⟩
      have e : setN (fun j => B 12 j = c ∧ B 13 j = kd ∧ B 14 j = a) (i + 1) = setN (fun j => B 12 j = c ∧ B 13 j = kd ∧ B 14 j = a) i + 2 ^ i := by
        show setN (fun j => B 12 j = c ∧ B 13 j = kd ∧ B 14 j = a) i + _ = _
        rw [if_pos ⟨eu.symm.trans h1, ev.symm.trans h2, ew.symm.trans h3⟩]
      rw [hy, bOr_add (by omega) hy2, ← hy, ← e]
      exact st
  exact key (B 11 0).toNat 0 (by omega)
theorem TrU.adv {ch ch' : Nat → Int} {mo le : Int} (h : TrU M B c q ch mo le) (t : TrB N B c ch') (f : FrA M N) : TrU N B c q ch' mo le :=
  ⟨t, by rw [f.2 _ (by decide)]; exact h.bea, by rw [f.2 _ (by decide)]; exact h.ste, by rw [f.2 _ (by decide)]; exact h.mor, by rw [f.2 _ (by decide)]; exact h.les, by rw [f.1 _ (by decide) (by decide)]; exact h.hol, by rw [f.2 _ (by decide)]; exact h.fwe, h.2.2.2.2.2.2.2⟩
/-- a turn within a run's trial -/
theorem turn_ok {i mo le : Int} {Q : Mem → Prop} (H : TrU M B c q (chI B c i) mo le) (S : TrS M B c q (chI B c i) mo le)
    (kk : ∀ N, TrU N B c q (chI B c (i + 1)) mo le → TrS N B c q (chI B c (i + 1)) mo le → FrT M N → Q N) : w_Trial_advance M Q := by
  refine advance_ok H.b S.1 (fun N n1 n2 n3 n4 n5 => ?_)
  exact kk N (H.adv n1 n2) (S.cg n3 n4 n5 (n2.1 _ (by decide) (by decide)) (n2.1 _ (by decide) (by decide)) (n2.1 _ (by decide) (by decide)) (n2.1 _ (by decide) (by decide))) n2.t
theorem lookRuns_ok {y0 y1 : Nat} {D : Nat → Prop} {Q : Mem → Prop} (H : TrU M B c q (chI B c 0) 0 0) (S : TrS M B c q (chI B c 0) 0 0) (q0 : 0 ≤ q) (q6 : q < 6) (hch : M 36 c = many B c (nly B c)) (A : Aw M B c D) (z0 : y0 < 65536) (z1 : y1 < 65536)
    (b0 : ∀ j, (y0.testBit j = true ↔ j < (B 11 0).toNat ∧ B 12 j = c ∧ B 13 j = 0 ∧ B 14 j = q)) (b1 : ∀ j, (y1.testBit j = true ↔ j < (B 11 0).toNat ∧ B 12 j = c ∧ B 13 j = 1 ∧ B 14 j = q))
    (kk : ∀ N, Aw N B c (fun j => D j ∨ (y0.testBit j = true ∨ y1.testBit j = true)) → FrL M N → N 36 = M 36 → Oth M N c → Q N) : w_Words_lookByRuns M c y0 y1 Q := by
  have hR := H.b.hR
  have hW := H.b.hW
  have c0 := H.b.c0
  have c6 := H.b.c6
  have hma := many_all hR hW c0 c6
  unfold w_Words_lookByRuns w_Words_lookByRuns_L0
  intro X hX
  have key : ∀ (d n : Nat) (N : Mem), n + d = (many B c (nly B c)).toNat → TrU N B c q (chI B c n) 0 0 → TrS N B c q (chI B c n) 0 0 → FrL M N → N 36 = M 36 → Oth M N c → Av N B c n D (fun j => y0.testBit j = true ∨ y1.testBit j = true) → X n N := by
    intro d
    induction d with
    | zero =>
      intro n N hd h1 h2 h3 h4 h6 h5
      rw [Nat.add_zero] at hd
      apply hX
      unfold w_Words_lookByRuns_B0
      refine ⟨⟨c0, c6⟩, ?_⟩
      (intro a ea _ _; have ea : a = N 36 c := ea)
      rw [h4, hch] at ea
      rw [hd] at h5
      refine ⟨by omega, fun _ => kk N (h5.stop hR hW c0 c6 (fun j => Iff.rfl)) h3 h4 h6, fun h => absurd h (by omega)⟩
    | succ d ih =>
      intro n N hd h1 h2 h3 h4 h6 h5
      have hpl := plI_rng hR hW c0 c6 (n : Int)
      have hdig : ∀ k, k < nly B c → dig B c (plI B c n) k = chI B c n k := fun k hk => dig_plc hR hW c0 c6 (chI_ok hR hW c0 c6 n) hk
      have hbar : ∀ j : Nat, j < (B 11 0).toNat → B 12 j = c → (bar1 B c (dig B c (plI B c n)) j ↔ bar1 B c (chI B c n) j) := fun j hj hc => bar1_cg hR hW (by omega) (by omega) hc hdig
      apply hX
      unfold w_Words_lookByRuns_B0
      refine ⟨⟨c0, c6⟩, ?_⟩
      (intro a ea _ _; have ea : a = N 36 c := ea)
      rw [h4, hch] at ea
      refine ⟨by omega, fun h => absurd h (by omega), fun _ => ?_⟩
      refine play_ok h1 h2 q0 q6 (fun N1 p1 p2 p3 p4 => ?_)
      have pa : N1 37 = N 37 := p4 _ (by decide) (by decide) (by decide) (by decide) (by decide) (by decide) (by decide)
      have pc : N1 36 = N 36 := p4 _ (by decide) (by decide) (by decide) (by decide) (by decide) (by decide) (by decide)
      refine place_ok p1.b ⟨by show 0 ≤ c * 729 + plI B c n ∧ _; constructor; omega; show c * 729 + plI B c n < 4374; omega, ?_⟩
      intro v ev _ _
      have ev : v = N1 37 (c * 729 + plI B c n) := ev
      obtain ⟨y, y1', y2, y3⟩ := (h5.fr pa) (plI B c n) hpl.1 hpl.2
      rw [y1'] at ev
      subst ev
      have st : ∀ t : Nat, t < 65536 → (∀ j, (t.testBit j = true ↔ (y0.testBit j = true ∨ y1.testBit j = true) ∧ bar1 B c (dig B c (plI B c n)) j)) → w_Words_lookByRuns_j0 Q X c y0 y1 n (c * 729 + plc B c (chI B c n) (nly B c)) y t N1 := by
        intro t t1 t2
        unfold w_Words_lookByRuns_j0
        rw [bOr_nat (by omega) (by omega)]
        have ho : y ||| t < 65536 := Nat.or_lt_two_pow (n := 16) y2 t1
        refine ⟨⟨by show 0 ≤ c * 729 + plI B c n ∧ _; constructor; omega; show c * 729 + plI B c n < 4374; omega, by omega⟩, ?_⟩
        (intro N2 eN2; subst eN2)
        have U2 : TrU (mset N1 37 (c * 729 + plI B c n) ((y ||| t : Nat) : Int)) B c q (chI B c n) 0 0 := p1.fr (mset_ne (by decide)) (mset_ne (by decide)) (mset_ne (by decide)) ((FrL.rf.sA).cb p1.b.hC)
        have S2 : TrS (mset N1 37 (c * 729 + plI B c n) ((y ||| t : Nat) : Int)) B c q (chI B c n) 0 0 := p2.cg (by rw [mset_ne (by decide)]; exact Int.le_refl _) (by rw [mset_ne (by decide)]; exact p2.1.2) (fun _ _ _ => rfl) (mset_ne (by decide)) (mset_ne (by decide)) (mset_ne (by decide)) (mset_ne (by decide))
        have A2 : Av (mset N1 37 (c * 729 + plI B c n) ((y ||| t : Nat) : Int)) B c (n + 1) D (fun j => y0.testBit j = true ∨ y1.testBit j = true) := by
          refine (h5.fr pa).put hpl (fun w w1 w2 => ⟨y ||| t, rfl, ho, fun j => ?_⟩)
          rw [y1'] at w1
          have w1 : y = w := Int.ofNat_inj.mp w1
          subst w1
          rw [Nat.testBit_or, Bool.or_eq_true, t2]
        refine turn_ok U2 S2 (fun N3 k1 k2 k3 => ?_)
        have ka : N3 37 = (mset N1 37 (c * 729 + plI B c n) ((y ||| t : Nat) : Int)) 37 := k3 _ (by decide) (by decide) (by decide) (by decide) (by decide) (by decide) (by decide)
        have kc : N3 36 = N1 36 := (k3 _ (by decide) (by decide) (by decide) (by decide) (by decide) (by decide) (by decide)).trans (mset_ne (by decide))
        exact ih (n + 1) N3 (by omega) k1 k2 (((h3.trans p4.l).sA).trans k3.l) (kc.trans (pc.trans h4)) (((h6.trans (Oth.eq pa)).s hpl.1 (Int.lt_of_lt_of_le hpl.2 hma.2)).trans (Oth.eq ka)) (A2.fr ka)
      refine someGone_ok p1.b p3 (fun hg => ?_) (fun hg => ?_)
      · have hg : anyG B c q (chI B c n) 0 0 := hg
        (first | refine t1n ?_ | refine t1e ?_)
        refine st y0 z0 (fun j => ?_)
        constructor
        · intro hj
          have := (b0 j).mp hj
          refine ⟨Or.inl hj, (hbar j this.1 this.2.1).mpr ?_⟩
          unfold bar1
          rw [if_neg (by omega), if_pos this.2.2.1, this.2.2.2]
          exact hg
        · rintro ⟨hj | hj, hb⟩
          · exact hj
          · have := (b1 j).mp hj
            have hb := (hbar j this.1 this.2.1).mp hb
            unfold bar1 at hb
            rw [if_neg (by omega), if_neg (by omega), this.2.2.2] at hb
            exact absurd hg hb
      · have hg : ¬ anyG B c q (chI B c n) 0 0 := hg
        (first | refine t0n ?_ | refine t0e ?_)
        refine st y1 z1 (fun j => ?_)
        constructor
        · intro hj
          have := (b1 j).mp hj
          refine ⟨Or.inr hj, (hbar j this.1 this.2.1).mpr ?_⟩
          unfold bar1
          rw [if_neg (by omega), if_neg (by omega), this.2.2.2]
          exact hg
        · rintro ⟨hj | hj, hb⟩
          · have := (b0 j).mp hj
            have hb := (hbar j this.1 this.2.1).mp hb
            unfold bar1 at hb
            rw [if_neg (by omega), if_pos this.2.2.1, this.2.2.2] at hb
            exact absurd hb hg
          · exact hj
  exact key (many B c (nly B c)).toNat 0 M (by omega) H S FrL.rf rfl (fun _ _ => rfl) (A.go _)
end LOOK2
