/-! ===== choices ===== -/
/-- the answer of choices -/
def ansC (B : Mem) (c w k j r : Int) : Prop := (w = 0 → r = many B c (nly B c)) ∧ (w = 1 → r = cntN (fun p => kept B c p) (many B c (nly B c)).toNat) ∧ (w = 2 → isF B c r) ∧ (w = 3 → r = sm (fK B c k.toNat j) (many B c (nly B c)).toNat)
theorem ansC.uni {B : Mem} {c w k j r r' : Int} (h : ansC B c w k j r) (h' : ansC B c w k j r') (w0 : 0 ≤ w) (w3 : w ≤ 3) : r = r' := by
  have : w = 0 ∨ w = 1 ∨ w = 2 ∨ w = 3 := by omega
  rcases this with e | e | e | e
  · rw [h.1 e, h'.1 e]
  · rw [h.2.1 e, h'.2.1 e]
  · exact (h.2.2.1 e).uni (h'.2.2.1 e)
  · rw [h.2.2.2 e, h'.2.2.2 e]
theorem S_choices_j0_ok {M B : Mem} {c w k j : Int} {Q : Int → Mem → Prop} (I : Inv M B) (c0 : 0 ≤ c) (c6 : c < 6) (hw : R32 w) (hj : R32 j) (h3 : w = 3 → 0 ≤ k ∧ k < B 2 c) (kO : ¬ (0 ≤ w ∧ w ≤ 3) → Q (-1002) M) (kk : ∀ r N, 0 ≤ w → w ≤ 3 → ansC B c w k j r → Inv N B → Q r N) : w_S_choices_j0 Q c w k j M := by
  obtain ⟨c, rfl⟩ : ∃ n : Nat, c = n := ⟨c.toNat, by omega⟩
  obtain ⟨hC, hM, hR, hW, hS, hCC, hCM⟩ := id I
  have hn := nly_i hR c
  unfold w_S_choices_j0
  refine S_beyond_ok hw (by decide) (by decide) (fun h => ?_) (fun w0 w3 => ?_)
  · (first | refine t1n ?_ | refine t1e ?_)
    exact kO (by omega)
  (first | refine t0n ?_ | refine t0e ?_)
  refine ⟨hw, fun hw0 => ?_, fun hw0 => choicesOf_ok hC hR c0 c6 (kk _ M w0 w3 ⟨fun _ => rfl, fun z => absurd z (by omega), fun z => absurd z (by omega), fun z => absurd z (by omega)⟩ I)⟩
  refine look_ok I (by omega) (fun N n1 n2 n3 => ?_)
  refine ⟨hw, fun hw2 => ⟨hw, fun hw1 => ?_, fun hw1 => ?_⟩, fun hw2 => ?_⟩
  · have hk := h3 (by omega)
    have ek : k = (k.toNat : Nat) := by omega
    have := keptWith_ok (k := k.toNat) (j := j) (Q := Q) n1 (by omega) n2 (by omega) hj (fun O o1 => kk _ O w0 w3 ⟨fun z => absurd z (by omega), fun z => absurd z (by omega), fun z => absurd z (by omega), fun _ => rfl⟩ o1)
    rw [← ek] at this
    exact this
  · exact countKept_ok n1 (by omega) n2 (kk _ N w0 w3 ⟨fun z => absurd z (by omega), fun _ => rfl, fun z => absurd z (by omega), fun z => absurd z (by omega)⟩ n1)
  · exact firstKept_ok n1 (by omega) n2 (fun r hr => kk r N w0 w3 ⟨fun z => absurd z (by omega), fun z => absurd z (by omega), fun _ => hr, fun z => absurd z (by omega)⟩ n1)
theorem m_choices_j0_ok {M B : Mem} {c w k j : Int} {Q : Int → Mem → Prop} (I : Inv M B) (c0 : 0 ≤ c) (c6 : c < 6) (hw : R32 w) (hj : R32 j) (h3 : w = 3 → 0 ≤ k ∧ k < B 2 c) (kO : ¬ (0 ≤ w ∧ w ≤ 3) → Q (-1002) M) (kk : ∀ r N, 0 ≤ w → w ≤ 3 → ansC B c w k j r → Inv N B → Q r N) : w_m_choices_j0 Q c w k j M := by
  obtain ⟨hC, hM, hR, hW, hS, hCC, hCM⟩ := id I
  have hn := nly_i hR c
  have hma := many_all hR hW c0 c6
  unfold w_m_choices_j0
  refine ⟨hw, m_in_ok hw (by decide) (by decide) (fun h => ?_) (fun w0 w3 => ?_)⟩
  · (first | refine t0n ?_ | refine t0e ?_)
    exact kO (by omega)
  (first | refine t1n ?_ | refine t1e ?_)
  refine m_findKept_ok I c0 c6 (fun N n1 n2 n3 n4 n5 => ?_)
  refine m_manyChoices_ok n1.2.1 hR c0 c6 ?_
  unfold w_m_choices_L0
  intro X hX
  have key : ∀ (i : Nat) (O : Mem) (f s : Int), (i : Int) ≤ many B c (nly B c) → Inv O B → O 66 c = 1 → ((f = -1 ∧ ∀ p : Int, i ≤ p → p < many B c (nly B c) → ¬ kept B c p) ∨ ((i ≤ f ∧ f < many B c (nly B c)) ∧ kept B c f ∧ ∀ p : Int, i ≤ p → p < f → ¬ kept B c p)) → (w = 3 → sm (fK B c k.toNat j) i + s = sm (fK B c k.toNat j) (many B c (nly B c)).toNat) → X f s ((i : Int) - 1) O := by
    intro i
    induction i with
    | zero =>
      intro O f s hi o1 o2 hf hs
      apply hX
      unfold w_m_choices_B0
      refine ⟨by omega, fun _ => ⟨hw, fun e0 => ⟨hw, fun e1 => ⟨hw, fun e2 => ?_, fun e2 => ?_⟩, fun e1 => ?_⟩, fun e0 => ?_⟩, fun h => absurd h (by omega)⟩
      · refine kk s O w0 w3 ⟨fun z => absurd z e0, fun z => absurd z e1, fun z => absurd z e2, fun z => ?_⟩ o1
        have := hs z
        have e : sm (fK B c k.toNat j) 0 = 0 := rfl
        omega
      · exact kk f O w0 w3 ⟨fun z => absurd z e0, fun z => absurd z e1, fun _ => hf, fun z => absurd z (by omega)⟩ o1
      · exact kk _ O w0 w3 ⟨fun z => absurd z e0, fun _ => rfl, fun z => absurd z (by omega), fun z => absurd z (by omega)⟩ o1
      · exact m_manyChoices_ok o1.2.1 hR c0 c6 (kk _ O w0 w3 ⟨fun _ => rfl, fun z => absurd z (by omega), fun z => absurd z (by omega), fun z => absurd z (by omega)⟩ o1)
    | succ i ih =>
      intro O f s hi o1 o2 hf hs
      have hcm := (o1.2.2.2.2.2.2 c c0 c6 o2).2 i (by omega) (by omega)
      have e1 : sm (fK B c k.toNat j) (i + 1) = sm (fK B c k.toNat j) i + fK B c k.toNat j i := rfl
      rw [(show ((i + 1 : Nat) : Int) - 1 = i by omega)]
      apply hX
      unfold w_m_choices_B0
      refine ⟨by omega, fun h => absurd h (by omega), fun _ => ⟨by omega, ?_⟩⟩
      (intro v ev _ _; have ev : v = O 82 (729 * c + i) := ev)
      rw [(show (i : Int) + -1 = (i : Int) - 1 by omega)]
      refine ⟨fun hv => ?_, fun hv => ?_⟩
      · have hnk : ¬ kept B c i := fun z => by have := hcm.mpr z; omega
        refine ih O f s (by omega) o1 o2 ?_ (fun z => ?_)
        · rcases hf with ⟨a, b⟩ | ⟨a, b, d⟩
          · refine Or.inl ⟨a, fun p p0 p1 => ?_⟩
            by_cases e : p = i
            · rw [e]; exact hnk
            · exact b p (by omega) p1
          · refine Or.inr ⟨by omega, b, fun p p0 p1 => ?_⟩
            by_cases e : p = i
            · rw [e]; exact hnk
            · exact d p (by omega) p1
        · have := hs z
          have ez : fK B c k.toNat j i = 0 := by unfold fK; exact if_neg (fun y => hnk y.2)
          omega
      · have hk : kept B c i := hcm.mp (by omega)
        refine m_choose_ok o1.2.1 hR hW c0 c6 (by omega) (by omega) (fun P p1 p2 p3 => ?_)
        have IP := o1.ag p3.ag
        have fP : P 66 c = 1 := by rw [p3.1 _ (by decide) (by decide)]; exact o2
        have st : ∀ z : Int, (w = 3 → z = fK B c k.toNat j i) → X i (s + z) ((i : Int) - 1) P := by
          intro z ez
          refine ih P i (s + z) (by omega) IP fP (Or.inr ⟨by omega, hk, fun p p0 p1 => absurd p1 (by omega)⟩) (fun y => ?_)
          have := hs y
          have := ez y
          omega
        refine ⟨hw, fun e3 => st 0 (fun z => absurd z e3), fun e3 => ⟨by have := h3 e3; omega, ?_⟩⟩
        have hk3 := h3 e3
        have ek : k = (k.toNat : Nat) := by omega
        (intro x ex _ _; have ex : x = P 68 k := ex)
        rw [ek, p1 k.toNat (by omega)] at ex
        refine ⟨hj, fun e4 => st 0 (fun _ => ?_), fun e4 => st 1 (fun _ => ?_)⟩
        · unfold fK
          exact (if_neg (fun z => e4 (ex.trans z.1))).symm
        · unfold fK
          exact (if_pos ⟨ex.symm.trans e4, hk⟩).symm
  have := key (many B c (nly B c)).toNat N (-1) 0 (by omega) n1 n2 (Or.inl ⟨rfl, fun p p0 p1 => absurd p1 (by omega)⟩) (fun _ => Int.add_zero _)
  rw [(show (((many B c (nly B c)).toNat : Nat) : Int) - 1 = many B c (nly B c) - 1 by omega)] at this
  exact this
theorem both_choices {M B : Mem} {c w l j : Int} {Q : Int → Int → Mem → Prop} (I : Inv M B) (hc : R32 c) (hw : R32 w) (hl : R32 l) (hj : R32 j) (k : ∀ (r : Int) (N B' : Mem), Inv N B' → Q r r N) : w_S_choices M c w l j (fun r M1 => w_m_choices M1 c w l j (fun r2 M2 => Q r r2 M2)) := by
  obtain ⟨hC, hM, hR, hW, hS, hCC, hCM⟩ := id I
  unfold w_S_choices
  refine hasColumn_ok hc (fun h => ?_) (fun c0 c6 => ?_)
  · (first | refine t0n ?_ | refine t0e ?_)
    unfold w_m_choices
    refine m_isColumn_ok hc (fun _ => ?_) (fun a b => absurd ⟨a, b⟩ h)
    (first | refine t0n ?_ | refine t0e ?_)
    exact k _ _ _ I
  (first | refine t1n ?_ | refine t1e ?_)
  have hcv : 0 ≤ l → l < B 2 c → 1 ≤ B 5 (c * 6 + l) ∧ B 5 (c * 6 + l) ≤ 3 := fun a b => ⟨hW.1 c l c0 c6 a b, (b_values hR _).2⟩
  have hl6 := b_layers hR c
  -- the model's half, its preconditions given
  have mod : ∀ (N : Mem) (R : Int → Int → Mem → Prop) (r : Int), Inv N B → (w = 3 → 0 ≤ l ∧ l < B 2 c ∧ 0 ≤ j ∧ j ≤ B 5 (c * 6 + l) - 1) → w_m_choices_j0 (fun r2 M2 => R r r2 M2) c w l j N → w_m_choices N c w l j (fun r2 M2 => R r r2 M2) := by
    intro N R r IN h3 hj0
    unfold w_m_choices
    refine m_isColumn_ok hc (fun h => absurd ⟨c0, c6⟩ h) (fun _ _ => ?_)
    (first | refine t1n ?_ | refine t1e ?_)
    refine ⟨hw, fun _ => hj0, fun e3 => ?_⟩
    obtain ⟨a1, a2, a3, a4⟩ := h3 e3
    refine m_isLayer_ok IN.2.1 hc hl (fun h => absurd ⟨c0, c6, a1, a2⟩ h) (fun _ _ _ _ => ?_)
    (first | refine t1n ?_ | refine t1e ?_)
    refine ⟨hj, by omega, ?_⟩
    (intro v ev _ _; have ev : v = N 58 (6 * c + l) := ev)
    rw [m_values IN.2.1, Int.mul_comm 6 c] at ev
    refine m_in_ok hj (by decide) (by omega) (fun h => absurd h (by omega)) (fun _ _ => ?_)
    (first | refine t1n ?_ | refine t1e ?_)
    exact hj0
  have go : (w = 3 → 0 ≤ l ∧ l < B 2 c ∧ 0 ≤ j ∧ j ≤ B 5 (c * 6 + l) - 1) → w_S_choices_j0 (fun r M1 => w_m_choices M1 c w l j (fun r2 M2 => Q r r2 M2)) c w l j M := by
    intro h3
    have h3' : w = 3 → 0 ≤ l ∧ l < B 2 c := fun z => ⟨(h3 z).1, (h3 z).2.1⟩
    refine S_choices_j0_ok I c0 c6 hw hj h3' (fun hn => ?_) (fun r N w0 w3 ha IN => ?_)
    · exact mod M Q (-1002) I h3 (m_choices_j0_ok I c0 c6 hw hj h3' (fun _ => k _ _ _ I) (fun r2 N w0 w3 _ _ => absurd ⟨w0, w3⟩ hn))
    · refine mod N Q r IN h3 (m_choices_j0_ok IN c0 c6 hw hj h3' (fun hn => absurd ⟨w0, w3⟩ hn) (fun r2 O _ _ ha2 IX => ?_))
      rw [ha2.uni ha w0 w3]
      exact k _ _ _ IX
  refine ⟨hw, fun e3 => go (fun z => absurd z e3), fun e3 => ?_⟩
  refine hasLayer_ok hC hc hl (fun h => ?_) (fun _ _ l0 l1 => ?_)
  · (first | refine t0n ?_ | refine t0e ?_)
    unfold w_m_choices
    refine m_isColumn_ok hc (fun h => absurd ⟨c0, c6⟩ h) (fun _ _ => ?_)
    (first | refine t1n ?_ | refine t1e ?_)
    refine ⟨hw, fun z => absurd e3 z, fun _ => ?_⟩
    refine m_isLayer_ok hM hc hl (fun _ => ?_) (fun a b d e => absurd ⟨a, b, d, e⟩ h)
    (first | refine t0n ?_ | refine t0e ?_)
    exact k _ _ _ I
  (first | refine t1n ?_ | refine t1e ?_)
  have hv := hcv l0 l1
  refine ⟨by omega, ?_⟩
  (intro v ev _ _; have ev : v = M 24 (c * 6 + l) := ev)
  rw [c_values hC] at ev
  refine S_beyond_ok hj (by decide) (by omega) (fun h => ?_) (fun j0 j1 => ?_)
  · (first | refine t1n ?_ | refine t1e ?_)
    unfold w_m_choices
    refine m_isColumn_ok hc (fun h => absurd ⟨c0, c6⟩ h) (fun _ _ => ?_)
    (first | refine t1n ?_ | refine t1e ?_)
    refine ⟨hw, fun z => absurd e3 z, fun _ => ?_⟩
    refine m_isLayer_ok hM hc hl (fun h => absurd ⟨c0, c6, l0, l1⟩ h) (fun _ _ _ _ => ?_)
    (first | refine t1n ?_ | refine t1e ?_)
    refine ⟨hj, by omega, ?_⟩
    (intro u eu _ _; have eu : u = M 58 (6 * c + l) := eu)
    rw [m_values hM, Int.mul_comm 6 c] at eu
    refine m_in_ok hj (by decide) (by omega) (fun _ => ?_) (fun a b => absurd h (by omega))
    (first | refine t0n ?_ | refine t0e ?_)
    exact k _ _ _ I
  (first | refine t0n ?_ | refine t0e ?_)
  exact go (fun _ => ⟨l0, l1, j0, by omega⟩)
