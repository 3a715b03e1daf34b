/-! ===== bars ===== -/
theorem countAgainst_ok {M B : Mem} {c i : Nat} {Q : Int → Prop} (I : Inv M B) (hc6 : c < 6) (hl : M 5 9 / 2 ^ c % 2 = 1) (i1 : (i : Int) < B 11 0) (hc : B 12 i = c)
    (kk : Q (cntN (fun p => bar1 B c (dig B c p) i) (many B c (nly B c)).toNat)) : w_Words_countAgainst M c i Q := by
  obtain ⟨hC, hM, hR, hW, hS, hCC, hCM⟩ := id I
  have hma := many_all (c := c) hR hW (by omega) (by omega)
  have hat := hCC.at hc6 hl
  have hwd := b_words hR 0
  unfold w_Words_countAgainst w_Words_countAgainst_L0
  intro X hX
  have key : ∀ (d p : Nat), p + d = (many B c (nly B c)).toNat → X (cntN (fun p => bar1 B c (dig B c p) i) p) p := by
    intro d
    induction d with
    | zero =>
      intro p hp
      rw [Nat.add_zero] at hp
      apply hX
      unfold w_Words_countAgainst_B0
      refine ⟨by omega, ?_⟩
      (intro a ea _ _; have ea : a = M 36 c := ea)
      rw [hat.1] at ea
      refine ⟨by omega, fun _ => by rw [hp]; exact kk, fun h => absurd h (by omega)⟩
    | succ d ih =>
      intro p hp
      have st := ih (p + 1) (by omega)
      obtain ⟨Y, Y1, Y2, Y3⟩ := setN_bit (fun j => B 12 j = c ∧ bar1 B c (dig B c p) j) (B 11 0).toNat
      have Y1 : agst B c (dig B c p) = Y := Y1
      have Y4 : Y < 65536 := Nat.lt_of_lt_of_le Y2 (Nat.pow_le_pow_right (n := 2) (i := (B 11 0).toNat) (j := 16) (by decide) (by omega))
      apply hX
      unfold w_Words_countAgainst_B0
      refine ⟨by omega, ?_⟩
      (intro a ea _ _; have ea : a = M 36 c := ea)
      rw [hat.1] at ea
      refine ⟨by omega, fun h => absurd h (by omega), fun _ => ⟨by omega, ?_⟩⟩
      (intro v ev _ _; have ev : v = M 37 (c * 729 + p) := ev)
      rw [hat.2 p (by omega) (by omega), Y1] at ev
      subst ev
      rw [bit_and1 (by omega) (by omega), bit_nat]
      have e : cntN (fun p => bar1 B c (dig B c p) i) (p + 1) = cntN (fun p => bar1 B c (dig B c p) i) p + (if Y.testBit i = true then 1 else 0) := by
        show cntN (fun p => bar1 B c (dig B c p) i) p + _ = _
        by_cases h : bar1 B c (dig B c p) i
        · rw [if_pos h, if_pos ((Y3 i).mpr ⟨by omega, hc, h⟩)]
        · rw [if_neg h, if_neg (fun z => h ((Y3 i).mp z).2.2)]
      rw [e] at st
      exact st
  exact key (many B c (nly B c)).toNat 0 (by omega)
theorem both_bars {M B : Mem} {i : Int} {Q : Int → Int → Mem → Prop} (I : Inv M B) (hi : R32 i) (k : ∀ (r : Int) (N B' : Mem), Inv N B' → Q r r N) : w_S_bars M i (fun r M1 => w_m_bars M1 i (fun r2 M2 => Q r r2 M2)) := by
  obtain ⟨hC, hM, hR, hW, hS, hCC, hCM⟩ := id I
  have hwd := b_words hR 0
  unfold w_S_bars
  refine hasWord_ok hC hi (fun h => ?_) (fun i0 i1 => ?_)
  · (first | refine t0n ?_ | refine t0e ?_)
    unfold w_m_bars
    refine m_isWord_ok hM hi (fun _ => ?_) (fun a b => absurd ⟨a, b⟩ h)
    (first | refine t0n ?_ | refine t0e ?_)
    exact k _ _ _ I
  (first | refine t1n ?_ | refine t1e ?_)
  obtain ⟨i, rfl⟩ : ∃ n : Nat, i = n := ⟨i.toNat, by omega⟩
  have hcr := b_wcol hR i
  obtain ⟨c, hc⟩ : ∃ n : Nat, B 12 i = n := ⟨(B 12 i).toNat, by omega⟩
  have c0 : (0 : Int) ≤ c := by omega
  have c6 : (c : Int) < 6 := by omega
  have hma := many_all (c := c) hR hW c0 c6
  refine ⟨by omega, ?_⟩
  (intro a ea _ _; have ea : a = M 31 i := ea)
  rw [c_wcol hC, hc] at ea
  subst ea
  refine look_ok I (by omega) (fun N n1 n2 n3 => ?_)
  refine countAgainst_ok n1 (by omega) n2 i1 hc ?_
  unfold w_m_bars
  refine m_isWord_ok n1.2.1 hi (fun h => absurd ⟨i0, i1⟩ h) (fun _ _ => ?_)
  (first | refine t1n ?_ | refine t1e ?_)
  refine m_plain_ok (fun M0 p1 p2 p3 p4 => ?_)
  have f0 : FrM N M0 := ⟨fun h _ _ _ _ _ _ _ e => p3 h e, fun k a b _ => p4 k a b⟩
  have I0 := n1.ag f0.ag
  refine ⟨by omega, ?_⟩
  (intro b eb _ _; have eb : b = M0 75 i := eb)
  rw [m_wcol I0.2.1, hc] at eb
  subst eb
  unfold w_m_bars_L0
  intro X hX
  have key : ∀ (d p : Nat) (O : Mem), p + d = (many B c (nly B c)).toNat → Inv O B → O 12 22 = 0 → O 12 23 = 0 → X (cntN (fun p => bar1 B c (dig B c p) i) p) p O := by
    intro d
    induction d with
    | zero =>
      intro p O hp IX o1 o2
      rw [Nat.add_zero] at hp
      apply hX
      unfold w_m_bars_B0
      refine m_manyChoices_ok IX.2.1 hR c0 c6 ⟨by omega, by omega, fun _ => by rw [hp]; exact k _ _ _ IX, fun h => absurd h (by omega)⟩
    | succ d ih =>
      intro p O hp IX o1 o2
      apply hX
      unfold w_m_bars_B0
      refine m_manyChoices_ok IX.2.1 hR c0 c6 ⟨by omega, by omega, fun h => absurd h (by omega), fun _ => ?_⟩
      refine m_choose_ok IX.2.1 hR hW c0 c6 (by omega) (by omega) (fun P q1 q2 q3 => ?_)
      refine m_forget_ok (fun P2 g0 g1 => ?_)
      have fb : FrB P P2 := fun h _ _ _ _ _ _ e => g1 h e
      have IP := (IX.ag q3.ag).ag fb.ag
      have OP : Open P B c (dig B c p) := ⟨(IX.ag q3.ag).2.1, hR, hW, c0, c6, q1, by rw [q3.2 _ (by decide)]; exact o1, by rw [q3.2 _ (by decide)]; exact o2⟩
      have OP2 := OP.fr fb
      refine m_barsChoice_ok OP2 (fun q a b => Or.inl (g0 q a b)) i0 i1 hc (dig_ok hR hW c0 c6 p) (fun r P3 r1 r2 r3 => ?_)
      have OP3 := OP2.fr r3
      have st := ih (p + 1) P3 (by omega) (IP.ag r3.ag) OP3.2.2.2.2.2.2.1 OP3.2.2.2.2.2.2.2
      rcases r1 with ⟨rfl, h⟩ | ⟨rfl, h⟩
      · (first | refine t1n ?_ | refine t1e ?_)
        have e : cntN (fun p => bar1 B c (dig B c p) i) (p + 1) = cntN (fun p => bar1 B c (dig B c p) i) p + 1 := by
          show cntN (fun p => bar1 B c (dig B c p) i) p + _ = _
          rw [if_pos h]
        rw [e] at st
        exact st
      · (first | refine t0n ?_ | refine t0e ?_)
        have e : cntN (fun p => bar1 B c (dig B c p) i) (p + 1) = cntN (fun p => bar1 B c (dig B c p) i) p + 0 := by
          show cntN (fun p => bar1 B c (dig B c p) i) p + _ = _
          rw [if_neg h]
        rw [e] at st
        exact st
  exact key (many B c (nly B c)).toNat 0 M0 (by omega) I0 p1 p2
