/-! ===== toStrike ===== -/
/-- the bits of a set, one by one -/
def psB (x : Nat) : Nat → Int
  | 0 => 0
  | n + 1 => psB x n + (x : Int) / 2 ^ n % 2
def psN (x : Nat) : Nat → Nat
  | 0 => 0
  | n + 1 => psN x n + x / 2 ^ n % 2
theorem psB_N (x : Nat) : ∀ n : Nat, psB x n = (psN x n : Nat)
  | 0 => rfl
  | n + 1 => by
    have e : (x : Int) / 2 ^ n % 2 = ((x / 2 ^ n % 2 : Nat) : Int) := by
      push_cast
      rfl
    unfold psB psN
    rw [psB_N x n, e, Int.natCast_add]
theorem psB_16 (x : Nat) : psB x 16 = (pop16 x : Nat) := by
  have e : psN x 16 = pop16 x := by
    show 0 + x / 1 % 2 + x / 2 % 2 + x / 4 % 2 + x / 8 % 2 + x / 16 % 2 + x / 32 % 2 + x / 64 % 2 + x / 128 % 2 + x / 256 % 2 + x / 512 % 2 + x / 1024 % 2 + x / 2048 % 2 + x / 4096 % 2 + x / 8192 % 2 + x / 16384 % 2 + x / 32768 % 2 = _
    rw [Nat.div_one, Nat.zero_add]
    rfl
  rw [psB_N, e]
theorem m_bits_ok {M : Mem} {x : Nat} {Q : Int → Prop} (hx : x < 65536) (kk : Q (pop16 x : Nat)) : w_m_bits M x Q := by
  unfold w_m_bits w_m_bits_L0
  intro X hX
  have key : ∀ (d i : Nat), i + d = 16 → X (psB x i) i := by
    intro d
    induction d with
    | zero =>
      intro i hi
      rw [Nat.add_zero] at hi
      apply hX
      unfold w_m_bits_B0
      refine ⟨by omega, fun _ => by rw [hi, psB_16]; exact kk, fun h => absurd h (by omega)⟩
    | succ d ih =>
      intro i hi
      apply hX
      unfold w_m_bits_B0
      refine ⟨by omega, fun h => absurd h (by omega), fun _ => ?_⟩
      rw [bit_and1 (by omega) (by omega)]
      exact ih (i + 1) (by omega)
  exact key 16 0 (by omega)
section STRIKE
variable {M N B : Mem}
/-- the words that a choice wants struck -/
noncomputable def stS (B : Mem) (c p : Int) : Int := brr B c (dig B c p) (B 11 0).toNat
theorem stS_nat (hR : RB B) (c p : Int) : ∃ y : Nat, stS B c p = y ∧ y < 65536 := by
  have hwd := b_words hR 0
  obtain ⟨y, h1, h2⟩ := setN_nat (fun i => B 12 i = c ∧ B 22 i = 0 ∧ bar1 B c (dig B c p) i) (B 11 0).toNat
  exact ⟨y, h1, Nat.lt_of_lt_of_le h2 (Nat.pow_le_pow_right (n := 2) (i := (B 11 0).toNat) (j := 16) (by decide) (by omega))⟩
theorem against_not {c : Nat} {p : Int} (I : Inv M B) (hc6 : c < 6) (hl : M 5 9 / 2 ^ c % 2 = 1) (p0 : 0 ≤ p) (p1 : p < many B c (nly B c)) {a t : Int} (ea : a = M 37 (c * 729 + p)) (et : t = M 5 6) (t0 : 0 ≤ t) (t1 : t ≤ 65535) : bAnd a (bXor t (-1)) = stS B c p := by
  obtain ⟨hC, hM, hR, hW, hS, hCC, hCM⟩ := id I
  have hwd := b_words hR 0
  have hat := (hCC.at hc6 hl).2 p p0 p1
  obtain ⟨Y, Y1, Y2, Y3⟩ := setN_bit (fun i => B 12 i = c ∧ bar1 B c (dig B c p) i) (B 11 0).toNat
  have Y1 : agst B c (dig B c p) = Y := Y1
  have Y4 : Y < 65536 := Nat.lt_of_lt_of_le Y2 (Nat.pow_le_pow_right (n := 2) (i := (B 11 0).toNat) (j := 16) (by decide) (by omega))
  obtain ⟨Z, Z1, Z2, Z3⟩ := setN_bit (fun i => B 12 i = c ∧ B 22 i = 0 ∧ bar1 B c (dig B c p) i) (B 11 0).toNat
  have Z1 : stS B c p = Z := Z1
  rw [hat, Y1] at ea
  subst ea
  have ett : t = (t.toNat : Nat) := by omega
  obtain ⟨w, w1, w2, w3⟩ := bNot (x := Y) (t := t.toNat) Y4 (by omega)
  rw [← ett] at w1
  rw [w1, Z1]
  have : w = Z := Nat.eq_of_testBit_eq (fun j => by
    rw [Bool.eq_iff_iff, w3, Z3, Bool.and_eq_true, Y3]
    by_cases hj : j < (B 11 0).toNat
    · have hs := hS j (by omega)
      rw [← et, ett, bit_nat] at hs
      have hsr := b_struck hR j
      cases hq : t.toNat.testBit j
      · rw [hq, if_neg (by decide)] at hs
        exact ⟨fun z => ⟨z.1.1, z.1.2.1, hs.symm, z.1.2.2⟩, fun z => ⟨⟨z.1, z.2.1, z.2.2.2⟩, rfl⟩⟩
      · rw [hq, if_pos rfl] at hs
        exact ⟨fun z => absurd z.2 (by decide), fun z => absurd z.2.2.1 (by omega)⟩
    · exact ⟨fun z => absurd z.1.1 hj, fun z => absurd z.1 hj⟩)
  rw [this]
def betr (a b : Int) : Prop := (pop16 a.toNat < pop16 b.toNat) ∨ (pop16 a.toNat = pop16 b.toNat ∧ a < b)
noncomputable def bst (B : Mem) (c : Int) : Nat → Int
  | 0 => stS B c 0
  | n + 1 => @ite Int (betr (stS B c (n + 1 : Nat)) (bst B c n)) (Classical.propDecidable _) (stS B c (n + 1 : Nat)) (bst B c n)
theorem bst_nat (hR : RB B) (c : Int) : ∀ n : Nat, ∃ y : Nat, bst B c n = y ∧ y < 65536
  | 0 => stS_nat hR c 0
  | n + 1 => by
    unfold bst
    by_cases h : betr (stS B c (n + 1 : Nat)) (bst B c n)
    · rw [if_pos h]; exact stS_nat hR c _
    · rw [if_neg h]; exact bst_nat hR c n
theorem fewest_ok {c : Nat} {Q : Int → Prop} (I : Inv M B) (hc6 : c < 6) (hl : M 5 9 / 2 ^ c % 2 = 1) (kk : Q (bst B c ((many B c (nly B c)).toNat - 1))) : w_Words_fewestAgainst M c Q := by
  obtain ⟨hC, hM, hR, hW, hS, hCC, hCM⟩ := id I
  have hma := many_all (c := c) hR hW (by omega) (by omega)
  have hat := (hCC.at hc6 hl).1
  unfold w_Words_fewestAgainst
  refine ⟨by omega, ?_⟩
  intro a ea _ _ t et t0 t1
  have ea : a = M 37 (c * 729 + 0) := by rw [Int.add_zero]; exact ea
  rw [against_not I hc6 hl (by decide) (by omega) ea et t0 t1]
  unfold w_Words_fewestAgainst_L0
  intro X hX
  have key : ∀ (d n : Nat), n + 1 + d = (many B c (nly B c)).toNat → X (bst B c n) (n + 1 : Nat) := by
    intro d
    induction d with
    | zero =>
      intro n hn
      apply hX
      unfold w_Words_fewestAgainst_B0
      refine ⟨by omega, ?_⟩
      (intro x ex _ _; have ex : x = M 36 c := ex)
      rw [hat] at ex
      rw [(show (many B c (nly B c)).toNat - 1 = n by omega)] at kk
      exact ⟨by omega, fun _ => kk, fun h => absurd h (by omega)⟩
    | succ d ih =>
      intro n hn
      obtain ⟨y, hy, hy2⟩ := bst_nat (B := B) hR c n
      obtain ⟨z, hz, hz2⟩ := stS_nat (B := B) hR c (n + 1 : Nat)
      have st := ih (n + 1) (by omega)
      have yes : betr (stS B c (n + 1 : Nat)) (bst B c n) → X (stS B c (n + 1 : Nat)) ((n + 1 : Nat) + 1) := by
        intro h
        have e : bst B c (n + 1) = stS B c (n + 1 : Nat) := if_pos h
        rw [e] at st
        exact st
      have no : ¬ betr (stS B c (n + 1 : Nat)) (bst B c n) → X (bst B c n) ((n + 1 : Nat) + 1) := by
        intro h
        have e : bst B c (n + 1) = bst B c n := if_neg h
        rw [e] at st
        exact st
      unfold betr at yes no
      rw [hy, hz] at yes
      rw [hy, hz] at no
      rw [Int.toNat_natCast, Int.toNat_natCast] at yes no
      apply hX
      unfold w_Words_fewestAgainst_B0
      refine ⟨by omega, ?_⟩
      (intro x ex _ _; have ex : x = M 36 c := ex)
      rw [hat] at ex
      refine ⟨by omega, fun h => absurd h (by omega), fun _ => ⟨by omega, ?_⟩⟩
      intro a2 ea2 _ _ t2 et2 t20 t21
      rw [against_not I hc6 hl (by omega) (by omega) ea2 et2 t20 t21, hy, hz]
      unfold w_bitCount
      rw [bits_ok hy2, bits_ok hz2]
      have hp : ∀ u : Nat, pop16 u ≤ 16 := fun u => by unfold pop16; omega
      have hp1 := hp y
      have hp2 := hp z
      refine ⟨by omega, fun h => yes (Or.inl (by omega)), fun h => ⟨by omega, fun h2 => no (by omega), fun h2 => ⟨by omega, by omega, fun h3 => no (by omega), fun h3 => yes (Or.inr (by omega))⟩⟩⟩
  exact key ((many B c (nly B c)).toNat - 1) 0 (by omega)
theorem both_toStrike {c : Int} {Q : Int → Int → Mem → Prop} (I : Inv M B) (hc : R32 c) (k : ∀ (r : Int) (N B' : Mem), Inv N B' → Q r r N) : w_S_toStrike M c (fun r M1 => w_m_toStrike M1 c (fun r2 M2 => Q r r2 M2)) := by
  obtain ⟨hC, hM, hR, hW, hS, hCC, hCM⟩ := id I
  unfold w_S_toStrike
  refine hasColumn_ok hc (fun h => ?_) (fun c0 c6 => ?_)
  · (first | refine t0n ?_ | refine t0e ?_)
    unfold w_m_toStrike
    refine m_isColumn_ok hc (fun _ => ?_) (fun a b => absurd ⟨a, b⟩ h)
    (first | refine t0n ?_ | refine t0e ?_)
    exact k _ _ _ I
  (first | refine t1n ?_ | refine t1e ?_)
  obtain ⟨c, rfl⟩ : ∃ n : Nat, c = n := ⟨c.toNat, by omega⟩
  have hma := many_all (c := c) hR hW c0 c6
  refine look_ok I (by omega) (fun N n1 n2 n3 => ?_)
  refine fewest_ok n1 (by omega) n2 ?_
  unfold w_m_toStrike
  refine m_isColumn_ok hc (fun h => absurd ⟨c0, c6⟩ h) (fun _ _ => ?_)
  (first | refine t1n ?_ | refine t1e ?_)
  refine m_plain_ok (fun M0 p1 p2 p3 p4 => ?_)
  have f0 : FrM N M0 := ⟨fun h _ _ _ _ _ _ _ e => p3 h e, fun k a b _ => p4 k a b⟩
  have I0 := n1.ag f0.ag
  unfold w_m_toStrike_L0
  intro X hX
  -- a place's set
  have plc1 : ∀ (p : Nat) (O : Mem) (R : Int → Mem → Prop), (p : Int) < many B c (nly B c) → Inv O B → O 12 22 = 0 → O 12 23 = 0 → (∀ P : Mem, Inv P B → P 12 22 = 0 → P 12 23 = 0 → R (stS B c p) P) → w_m_choose O c p (fun M6 => w_m_barring M6 c R) := by
    intro p O R hp IX o1 o2 kR
    refine m_choose_ok IX.2.1 hR hW c0 c6 (by omega) (by omega) (fun P q1 q2 q3 => ?_)
    have OP : Open P B c (dig B c p) := ⟨(IX.ag q3.ag).2.1, hR, hW, c0, c6, q1, by rw [q3.2 _ (by decide)]; exact o1, by rw [q3.2 _ (by decide)]; exact o2⟩
    refine m_barring_ok OP (dig_ok hR hW c0 c6 p) (fun P2 r1 => ?_)
    have OP2 := OP.fr r1
    exact kR P2 ((IX.ag q3.ag).ag r1.ag) OP2.2.2.2.2.2.2.1 OP2.2.2.2.2.2.2.2
  have key : ∀ (d n : Nat) (O : Mem), n + 1 + d = (many B c (nly B c)).toNat → Inv O B → O 12 22 = 0 → O 12 23 = 0 → X (bst B c n) (n + 1 : Nat) O := by
    intro d
    induction d with
    | zero =>
      intro n O hn IX o1 o2
      apply hX
      unfold w_m_toStrike_B0
      refine m_manyChoices_ok IX.2.1 hR c0 c6 ⟨by omega, by omega, fun _ => ?_, fun h => absurd h (by omega)⟩
      rw [(show (many B c (nly B c)).toNat - 1 = n by omega)]
      exact k _ _ _ IX
    | succ d ih =>
      intro n O hn IX o1 o2
      obtain ⟨y, hy, hy2⟩ := bst_nat (B := B) hR c n
      obtain ⟨z, hz, hz2⟩ := stS_nat (B := B) hR c (n + 1 : Nat)
      apply hX
      unfold w_m_toStrike_B0
      refine m_manyChoices_ok IX.2.1 hR c0 c6 ⟨by omega, by omega, fun h => absurd h (by omega), fun _ => ?_⟩
      refine plc1 (n + 1) O _ (by omega) IX o1 o2 (fun P IP q1 q2 => ?_)
      have st := ih (n + 1) P (by omega) IP q1 q2
      have yes : betr (stS B c (n + 1 : Nat)) (bst B c n) → w_m_toStrike_j0 (fun r2 M2 => Q (bst B c ((many B c (nly B c)).toNat - 1)) r2 M2) X c (bst B c n) (n + 1 : Nat) (stS B c (n + 1 : Nat)) 1 P := by
        intro h
        have e : bst B c (n + 1) = stS B c (n + 1 : Nat) := if_pos h
        rw [e] at st
        unfold w_m_toStrike_j0
        exact ⟨by decide, fun z => absurd z (by decide), fun _ => st⟩
      have no : ¬ betr (stS B c (n + 1 : Nat)) (bst B c n) → w_m_toStrike_j0 (fun r2 M2 => Q (bst B c ((many B c (nly B c)).toNat - 1)) r2 M2) X c (bst B c n) (n + 1 : Nat) (stS B c (n + 1 : Nat)) 0 P := by
        intro h
        have e : bst B c (n + 1) = bst B c n := if_neg h
        rw [e] at st
        unfold w_m_toStrike_j0
        exact ⟨by decide, fun _ => st, fun z => absurd rfl z⟩
      unfold betr at yes no
      rw [hy, hz] at yes
      rw [hy, hz] at no
      rw [Int.toNat_natCast, Int.toNat_natCast] at yes no
      rw [hy, hz]
      refine ⟨by omega, fun h => absurd h (by omega), fun _ => ?_⟩
      have hp : ∀ u : Nat, pop16 u ≤ 16 := fun u => by unfold pop16; omega
      have hp1 := hp y
      have hp2 := hp z
      refine m_bits_ok hz2 (m_bits_ok hy2 ⟨by omega, by omega, fun h => yes (Or.inl (by omega)), fun h => ?_⟩)
      refine m_bits_ok hz2 (m_bits_ok hy2 ⟨by omega, by omega, fun h2 => no (by omega), fun h2 => ⟨by omega, by omega, fun h3 => no (by omega), fun h3 => yes (Or.inr (by omega))⟩⟩)
  apply hX
  unfold w_m_toStrike_B0
  refine m_manyChoices_ok I0.2.1 hR c0 c6 ⟨by decide, by omega, fun h => absurd h (by omega), fun _ => ?_⟩
  refine plc1 0 M0 _ (by omega) I0 p1 p2 (fun P IP q1 q2 => ?_)
  refine ⟨by decide, fun _ => ?_, fun h => absurd (by decide) h⟩
  unfold w_m_toStrike_j0
  exact ⟨by decide, fun z => absurd z (by decide), fun _ => key ((many B c (nly B c)).toNat - 1) 0 P (by omega) IP q1 q2⟩
end STRIKE
