/-! ===== kept choices, both sides ===== -/
theorem bNot {x t : Nat} (hx : x < 65536) (ht : t < 65536) : ∃ y : Nat, bAnd x (bXor t (-1)) = y ∧ y < 65536 ∧ ∀ j, y.testBit j = (x.testBit j && !t.testBit j) := by
  refine ⟨x &&& (t ^^^ 4294967295), ?_, Nat.lt_of_le_of_lt Nat.and_le_left hx, fun j => ?_⟩
  · unfold bAnd bXor
    rw [i_back, ofI_nI, ofI_nI]
    refine toInt_nat ?_ (Nat.lt_of_le_of_lt Nat.and_le_left (by omega))
    rw [Int32.toBitVec_and, BitVec.toNat_and, pk_tn (by omega), Int32.toBitVec_xor, BitVec.toNat_xor, pk_tn (by omega)]
    rfl
  · rw [Nat.testBit_and, Nat.testBit_xor, show (4294967295 : Nat) = 2 ^ 32 - 1 from rfl, Nat.testBit_two_pow_sub_one]
    by_cases hj : j < 16
    · have h32 : decide (j < 32) = true := decide_eq_true (by omega)
      rw [h32]
      cases x.testBit j <;> cases t.testBit j <;> rfl
    · have hp2 : 2 ^ 16 ≤ 2 ^ j := Nat.pow_le_pow_right (by decide) (by omega)
      have : x.testBit j = false := Nat.testBit_lt_two_pow (Nat.lt_of_lt_of_le hx hp2)
      simp [this]
section KEPT
variable {M N B : Mem}
theorem keep_ok {c : Nat} {p : Int} {Q : Int → Prop} (I : Inv M B) (hc6 : c < 6) (hl : M 5 9 / 2 ^ c % 2 = 1) (p0 : 0 ≤ p) (p1 : p < many B c (nly B c)) (k1 : kept B c p → Q 1) (k0 : ¬ kept B c p → Q 0) : w_Words_keep M c p Q := by
  obtain ⟨hC, hM, hR, hW, hS, hCC, hCM⟩ := id I
  have hma := many_all (c := c) hR hW (by omega) (by omega)
  have hwd := b_words hR 0
  have hat := (hCC.at hc6 hl).2 p p0 p1
  obtain ⟨Y, Y1, Y2, Y3⟩ := setN_bit (fun i => B 12 i = c ∧ bar1 B c (dig B c p) i) (B 11 0).toNat
  have Y1 : agst B c (dig B c p) = Y := Y1
  have Y4 : Y < 65536 := Nat.lt_of_lt_of_le Y2 (Nat.pow_le_pow_right (n := 2) (i := (B 11 0).toNat) (j := 16) (by decide) (by omega))
  unfold w_Words_keep
  refine ⟨by omega, ?_⟩
  (intro a ea _ _; have ea : a = M 37 (c * 729 + p) := ea)
  rw [hat, Y1] at ea
  subst ea
  intro t et t0 t1
  have ett : t = (t.toNat : Nat) := by omega
  obtain ⟨w, w1, w2, w3⟩ := bNot (x := Y) (t := t.toNat) Y4 (by omega)
  rw [← ett] at w1
  rw [w1]
  have hst : ∀ i : Nat, i < 16 → (t.toNat.testBit i = true ↔ B 22 i = 1) := by
    intro i hi
    have := hS i hi
    rw [← et, ett, bit_nat] at this
    by_cases h : t.toNat.testBit i = true
    · rw [if_pos h] at this
      exact ⟨fun _ => this.symm, fun _ => h⟩
    · rw [if_neg h] at this
      exact ⟨fun z => absurd z h, fun z => by omega⟩
  have hk : w = 0 ↔ kept B c p := by
    constructor
    · intro h i i0 i1 h1 h2 h3
      have ei : i = (i.toNat : Nat) := by omega
      rw [ei] at h1 h2 h3
      have hy : Y.testBit i.toNat = true := (Y3 _).mpr ⟨by omega, h1, h3⟩
      have hw := w3 i.toNat
      rw [h, Nat.zero_testBit, hy, Bool.true_and] at hw
      have : t.toNat.testBit i.toNat = true := by
        cases hq : t.toNat.testBit i.toNat
        · rw [hq] at hw; exact absurd hw (by decide)
        · rfl
      have := (hst i.toNat (by omega)).mp this
      omega
    · intro h
      refine Nat.eq_of_testBit_eq (fun j => ?_)
      rw [Nat.zero_testBit, w3]
      cases hy : Y.testBit j
      · rfl
      · obtain ⟨h1, h2, h3⟩ := (Y3 j).mp hy
        have hs := b_struck hR j
        have : B 22 j ≠ 0 := fun z => h j (by omega) (by omega) h2 z h3
        rw [(hst j (by omega)).mpr (by omega)]
        rfl
  exact ⟨by omega, fun h => k0 (fun z => h (by have := hk.mpr z; omega)), fun h => k1 (hk.mp (by omega))⟩
theorem countKept_ok {c : Nat} {Q : Int → Prop} (I : Inv M B) (hc6 : c < 6) (hl : M 5 9 / 2 ^ c % 2 = 1) (kk : Q (cntN (fun p => kept B c p) (many B c (nly B c)).toNat)) : w_Words_countKept M c Q := by
  have hma := many_all (c := c) I.2.2.1 I.2.2.2.1 (by omega) (by omega)
  have hat := (I.2.2.2.2.2.1.at hc6 hl).1
  unfold w_Words_countKept w_Words_countKept_L0
  intro X hX
  have key : ∀ (d i : Nat), i + d = (many B c (nly B c)).toNat → X (cntN (fun p => kept B c p) i) i := by
    intro d
    induction d with
    | zero =>
      intro i hi
      rw [Nat.add_zero] at hi
      apply hX
      unfold w_Words_countKept_B0
      refine ⟨by omega, ?_⟩
      (intro a ea _ _; have ea : a = M 36 c := ea)
      rw [hat] at ea
      refine ⟨by omega, fun _ => by rw [hi]; exact kk, fun h => absurd h (by omega)⟩
    | succ d ih =>
      intro i hi
      have st := ih (i + 1) (by omega)
      apply hX
      unfold w_Words_countKept_B0
      refine ⟨by omega, ?_⟩
      (intro a ea _ _; have ea : a = M 36 c := ea)
      rw [hat] at ea
      refine ⟨by omega, fun h => absurd h (by omega), fun _ => ?_⟩
      refine keep_ok I hc6 hl (by omega) (by omega) (fun h => ?_) (fun h => ?_)
      · (first | refine t1n ?_ | refine t1e ?_)
        have e : cntN (fun p => kept B c p) (i + 1) = cntN (fun p => kept B c p) i + 1 := by
          show cntN (fun p => kept B c p) i + _ = _
          rw [if_pos h]
        rw [e] at st
        exact st
      · (first | refine t0n ?_ | refine t0e ?_)
        have e : cntN (fun p => kept B c p) (i + 1) = cntN (fun p => kept B c p) i := by
          show cntN (fun p => kept B c p) i + _ = _
          rw [if_neg h, Int.add_zero]
        rw [e] at st
        exact st
  exact key (many B c (nly B c)).toNat 0 (by omega)
/-- the first kept -/
def isF (B : Mem) (c r : Int) : Prop := (r = -1 ∧ ∀ p : Int, 0 ≤ p → p < many B c (nly B c) → ¬ kept B c p) ∨ ((0 ≤ r ∧ r < many B c (nly B c)) ∧ kept B c r ∧ ∀ p : Int, 0 ≤ p → p < r → ¬ kept B c p)
theorem isF.uni {c r r' : Int} (h : isF B c r) (h' : isF B c r') : r = r' := by
  rcases h with ⟨a, b⟩ | ⟨a, b, d⟩ <;> rcases h' with ⟨a', b'⟩ | ⟨a', b', d'⟩
  · omega
  · exact absurd b' (b r' a'.1 a'.2)
  · exact absurd b (b' r a.1 a.2)
  · by_cases e : r < r'
    · exact absurd b (d' r a.1 e)
    · by_cases e2 : r' < r
      · exact absurd b' (d r' a'.1 e2)
      · omega
theorem firstKept_ok {c : Nat} {Q : Int → Prop} (I : Inv M B) (hc6 : c < 6) (hl : M 5 9 / 2 ^ c % 2 = 1) (kk : ∀ r, isF B c r → Q r) : w_Words_firstKept M c Q := by
  have hma := many_all (c := c) I.2.2.1 I.2.2.2.1 (by omega) (by omega)
  have hat := (I.2.2.2.2.2.1.at hc6 hl).1
  unfold w_Words_firstKept w_Words_firstKept_L0
  intro X hX
  have key : ∀ (d i : Nat), i + d = (many B c (nly B c)).toNat → (∀ p : Int, 0 ≤ p → p < i → ¬ kept B c p) → X i := by
    intro d
    induction d with
    | zero =>
      intro i hi hn
      apply hX
      unfold w_Words_firstKept_B0
      refine ⟨by omega, ?_⟩
      (intro a ea _ _; have ea : a = M 36 c := ea)
      rw [hat] at ea
      refine ⟨by omega, fun _ => kk _ (Or.inl ⟨rfl, fun p p0 p1 => hn p p0 (by omega)⟩), fun h => absurd h (by omega)⟩
    | succ d ih =>
      intro i hi hn
      apply hX
      unfold w_Words_firstKept_B0
      refine ⟨by omega, ?_⟩
      (intro a ea _ _; have ea : a = M 36 c := ea)
      rw [hat] at ea
      refine ⟨by omega, fun h => absurd h (by omega), fun _ => ?_⟩
      refine keep_ok I hc6 hl (by omega) (by omega) (fun h => ?_) (fun h => ?_)
      · (first | refine t1n ?_ | refine t1e ?_)
        exact kk _ (Or.inr ⟨by omega, h, hn⟩)
      · (first | refine t0n ?_ | refine t0e ?_)
        refine ih (i + 1) (by omega) (fun p p0 p1 => ?_)
        by_cases e : p = i
        · rw [e]; exact h
        · exact hn p p0 (by omega)
  exact key (many B c (nly B c)).toNat 0 (by omega) (fun p p0 p1 => absurd p1 (by omega))
/-- kept with value j in layer k -/
noncomputable def fK (B : Mem) (c : Int) (k : Nat) (j p : Int) : Int := @ite Int (dig B c p k = j ∧ kept B c p) (Classical.propDecidable _) 1 0
theorem keptWith_ok {c : Nat} {k : Nat} {j : Int} {Q : Int → Mem → Prop} (I : Inv M B) (hc6 : c < 6) (hl : M 5 9 / 2 ^ c % 2 = 1) (hk : k < nly B c) (hj : R32 j)
    (kk : ∀ N, Inv N B → Q (sm (fK B c k j) (many B c (nly B c)).toNat) N) : w_S_keptWith M c k j Q := by
  obtain ⟨hC, hM, hR, hW, hS, hCC, hCM⟩ := id I
  have c0 : (0 : Int) ≤ c := by omega
  have c6 : (c : Int) < 6 := by omega
  have hma := many_all (c := c) hR hW c0 c6
  have hn := nly_i hR c
  unfold w_S_keptWith
  refine begin_ok hC hR hW c0 c6 (fun M0 b1 b2 b3 => ?_)
  rw [← chI_zero B c] at b1
  unfold w_S_keptWith_L0
  intro X hX
  have key : ∀ (d n : Nat) (N : Mem), n + d = (many B c (nly B c)).toNat → TrB N B c (chI B c n) → (-1 ≤ N 1 16 ∧ N 1 16 < (nly B c : Nat)) → FrT M N → X (sm (fun i => fK B c k j (plI B c i)) n) n N := by
    intro d
    induction d with
    | zero =>
      intro n N hd h1 h2 h3
      rw [Nat.add_zero] at hd
      have IN := I.ag h3.ag
      have hlN : N 5 9 / 2 ^ c % 2 = 1 := by rw [h3 _ (by decide) (by decide) (by decide) (by decide) (by decide) (by decide) (by decide)]; exact hl
      apply hX
      unfold w_S_keptWith_B0
      refine ⟨by omega, ?_⟩
      (intro a ea _ _; have ea : a = N 36 c := ea)
      rw [(IN.2.2.2.2.2.1.at hc6 hlN).1] at ea
      refine ⟨by omega, fun _ => ?_, fun h => absurd h (by omega)⟩
      rw [hd, sm_plI hR hW c0 c6]
      exact kk N IN
    | succ d ih =>
      intro n N hd h1 h2 h3
      have IN := I.ag h3.ag
      have hlN : N 5 9 / 2 ^ c % 2 = 1 := by rw [h3 _ (by decide) (by decide) (by decide) (by decide) (by decide) (by decide) (by decide)]; exact hl
      have hpl := plI_rng hR hW c0 c6 (n : Int)
      have hdig : dig B c (plI B c n) k = chI B c n k := dig_plc hR hW c0 c6 (chI_ok hR hW c0 c6 n) hk
      have nxt : ∀ z : Int, z = fK B c k j (plI B c n) → w_S_keptWith_j0 Q X c k j (sm (fun i => fK B c k j (plI B c i)) n + z) n N := by
        intro z ez
        unfold w_S_keptWith_j0
        refine advance_ok h1 h2 (fun P p1 p2 p3 p4 p5 => ?_)
        have := ih (n + 1) P (by omega) p1 (by omega) (h3.trans p2.t)
        rw [ez]
        exact this
      have zero : fK B c k j (plI B c n) = 0 → w_S_keptWith_j0 Q X c k j (sm (fun i => fK B c k j (plI B c i)) n) n N := by
        intro e
        have := nxt 0 e.symm
        rw [Int.add_zero] at this
        exact this
      apply hX
      unfold w_S_keptWith_B0
      refine ⟨by omega, ?_⟩
      (intro a ea _ _; have ea : a = N 36 c := ea)
      rw [(IN.2.2.2.2.2.1.at hc6 hlN).1] at ea
      refine ⟨by omega, fun h => absurd h (by omega), fun _ => ⟨by omega, ?_⟩⟩
      (intro x ex _ _; have ex : x = N 13 k := ex)
      rw [(h1.cho k hk).1] at ex
      refine ⟨hj, fun h => zero ?_, fun h => ?_⟩
      · unfold fK
        exact if_neg (fun z => h (by rw [ex, ← hdig]; exact z.1))
      · refine place_ok h1 ?_
        refine keep_ok (p := plI B c n) IN hc6 hlN hpl.1 hpl.2 (fun hk2 => ?_) (fun hk2 => ?_)
        · (first | refine t1n ?_ | refine t1e ?_)
          refine nxt 1 ?_
          unfold fK
          exact (if_pos ⟨by rw [hdig, ← ex]; exact h, hk2⟩).symm
        · (first | refine t0n ?_ | refine t0e ?_)
          refine zero ?_
          unfold fK
          exact if_neg (fun z => hk2 z.2)
  exact key (many B c (nly B c)).toNat 0 M0 (by omega) b1 (by omega) b2
end KEPT
