/-! ===== the model's kept choices ===== -/
/-- what finding the kept may change -/
def FrF (M N : Mem) : Prop := (∀ h, h ≠ 69 → h ≠ 70 → h ≠ 71 → h ≠ 72 → h ≠ 73 → h ≠ 74 → h ≠ 68 → h ≠ 81 → h ≠ 66 → h ≠ 67 → h ≠ 82 → h ≠ 12 → N h = M h) ∧ ∀ k : Int, k ≠ 22 → k ≠ 23 → k ≠ 17 → N 12 k = M 12 k
theorem FrF.rf {M : Mem} : FrF M M := ⟨fun _ _ _ _ _ _ _ _ _ _ _ _ _ => rfl, fun _ _ _ _ => rfl⟩
theorem FrF.trans {M N O : Mem} (h1 : FrF M N) (h2 : FrF N O) : FrF M O := ⟨fun h a b c d e f g i j k l m => (h2.1 h a b c d e f g i j k l m).trans (h1.1 h a b c d e f g i j k l m), fun k a b c => (h2.2 k a b c).trans (h1.2 k a b c)⟩
theorem FrM.ff {M N : Mem} (h : FrM M N) : FrF M N := ⟨fun x a b c d e f g _ _ _ _ i => h.1 x a b c d e f g i, h.2⟩
theorem FrB.ff {M N : Mem} (h : FrB M N) : FrF M N := ⟨fun x a b c d e f _ g _ _ _ _ => h x a b c d e f g, fun k _ _ _ => congrFun (h 12 (by decide) (by decide) (by decide) (by decide) (by decide) (by decide) (by decide)) k⟩
theorem FrF.sA {M N : Mem} {i z : Int} (h : FrF M N) {x : Nat} (hx : x = 66 ∨ x = 67 ∨ x = 82) : FrF M (mset N x i z) := by
  refine ⟨fun y a b c d e f g j k l n o => ?_, fun k a b c => ?_⟩
  · rw [mset_ne (show y ≠ x by omega)]; exact h.1 y a b c d e f g j k l n o
  · rw [mset_ne (show 12 ≠ x by omega)]; exact h.2 k a b c
/-- the places of the state do not lie there -/
theorem FrF.kc {M N : Mem} (h : FrF M N) : sme kC M N := sme.of (fun q hq => h.1 q.1 (by revert q; decide) (by revert q; decide) (by revert q; decide) (by revert q; decide) (by revert q; decide) (by revert q; decide) (by revert q; decide) (by revert q; decide) (by revert q; decide) (by revert q; decide) (by revert q; decide) (by revert q; decide))
theorem FrF.mb {M N B : Mem} (h : FrF M N) (hM : MB M B) : MB N B := by
  have t : ∀ q ∈ mTab, (q.2.1 ≠ 69 ∧ q.2.1 ≠ 70 ∧ q.2.1 ≠ 71 ∧ q.2.1 ≠ 72 ∧ q.2.1 ≠ 73 ∧ q.2.1 ≠ 74) ∧ (q.2.1 ≠ 68 ∧ q.2.1 ≠ 81 ∧ q.2.1 ≠ 66 ∧ q.2.1 ≠ 67 ∧ q.2.1 ≠ 82) ∧ (q.2.1 ≠ 12 ∨ (q.2.2 ≠ none ∧ q.2.2 ≠ some 22 ∧ q.2.2 ≠ some 23 ∧ q.2.2 ≠ some 17)) := by decide
  intro q hq
  have h1 := hM q hq
  obtain ⟨⟨t1, t2, t3, t4, t5, t6⟩, ⟨t7, t8, t9, t10, t11⟩, t12⟩ := t q hq
  obtain ⟨q0, q1, q2⟩ := q
  cases q2 with
  | none =>
    rcases t12 with e | e
    · exact (h.1 q1 t1 t2 t3 t4 t5 t6 t7 t8 t9 t10 t11 e).trans h1
    · exact absurd rfl e.1
  | some k =>
    by_cases e : q1 = 12
    · subst e
      rcases t12 with e | e
      · exact absurd rfl e
      · exact (h.2 k (fun z => e.2.1 (by rw [z])) (fun z => e.2.2.1 (by rw [z])) (fun z => e.2.2.2 (by rw [z]))).trans h1
    · exact (congrFun (h.1 q1 t1 t2 t3 t4 t5 t6 t7 t8 t9 t10 t11 e) k).trans h1
theorem m_findKept_all_ok {M B : Mem} {c : Int} {Q : Int → Mem → Prop} (I : Inv M B) (c0 : 0 ≤ c) (c6 : c < 6)
    (kk : ∀ N : Mem, Inv N B → N 66 c = 1 → N 12 22 = 0 → N 12 23 = 0 → FrF M N → (∀ j : Int, M 66 j = 1 → N 66 j = 1) → Q (cntN (fun p => kept B c p) (many B c (nly B c)).toNat) N) : w_m_findKept M c Q := by
  obtain ⟨hC, hM, hR, hW, hS, hCC, hCM⟩ := id I
  have hma := many_all hR hW c0 c6
  unfold w_m_findKept
  refine m_plain_ok (fun M0 p1 p2 p3 p4 => ?_)
  have f0 : FrM M M0 := ⟨fun h _ _ _ _ _ _ _ e => p3 h e, fun k a b _ => p4 k a b⟩
  have I0 := I.ag f0.ag
  refine ⟨⟨c0, c6⟩, ?_⟩
  (intro a ea _ _; have ea : a = M0 66 c := ea)
  refine ⟨fun ha => ?_, fun ha => ⟨⟨c0, c6⟩, ?_⟩⟩
  · unfold w_m_findKept_L0
    intro X hX
    have key : ∀ (d i : Nat) (N : Mem), i + d = (many B c (nly B c)).toNat → FrF M N → N 12 22 = 0 → N 12 23 = 0 → N 66 = M0 66 → N 67 = M0 67 → (∀ x : Int, ¬ (729 * c ≤ x ∧ x < 729 * c + 729) → N 82 x = M0 82 x) → (∀ p : Nat, p < i → (N 82 (729 * c + p) = 1 ↔ kept B c p)) → X (cntN (fun p => kept B c p) i) i N := by
      intro d
      induction d with
      | zero =>
        intro i N hi f m1 m2 e1 e2 e3 e4
        have hMN := f.mb hM
        rw [Nat.add_zero] at hi
        have cr : ∀ n : Nat, 0 ≤ cntN (fun p => kept B c p) n ∧ cntN (fun p => kept B c p) n ≤ n := by
          intro n
          induction n with
          | zero => unfold cntN; omega
          | succ n ih =>
            unfold cntN
            by_cases h : kept B c (n : Nat)
            · rw [if_pos h]; omega
            · rw [if_neg h]; omega
        have hcr := cr i
        apply hX
        unfold w_m_findKept_B0
        refine m_manyChoices_ok hMN hR c0 c6 ⟨by omega, by omega, fun _ => ⟨⟨c0, c6⟩, ?_⟩, fun h => absurd h (by omega)⟩
        (intro N1 eN1; subst eN1)
        refine ⟨by omega, ?_⟩
        (intro N2 eN2; subst eN2)
        have f2 : FrF M (mset (mset N 66 c 1) 67 c (cntN (fun p => kept B c p) i)) := (f.sA (Or.inl rfl)).sA (Or.inr (Or.inl rfl))
        rw [hi]
        rw [hi] at f2
        refine kk _ ⟨hC.kc f2.kc, f2.mb hM, hR, hW, hS.kc f2.kc, hCC.kc f2.kc, fun c' h0 h6 hl => ?_⟩ ?_ ?_ ?_ f2 (fun j hj => ?_)
        · by_cases e : c' = c
          · subst e
            refine ⟨by rw [ms_s], fun p p0 p1 => ?_⟩
            have ep : p = (p.toNat : Nat) := by omega
            rw [mset_ne (by decide), mset_ne (by decide), ep]
            exact e4 p.toNat (by omega)
          · rw [mset_ne (by decide), ms_n e, e1] at hl
            have := I0.2.2.2.2.2.2 c' h0 h6 hl
            have hm' := many_all hR hW h0 h6
            refine ⟨by rw [ms_n e, mset_ne (by decide), e2]; exact this.1, fun p p0 p1 => ?_⟩
            rw [mset_ne (by decide), mset_ne (by decide), e3 _ (by omega)]
            exact this.2 p p0 p1
        · rw [mset_ne (by decide), ms_s]
        · rw [mset_ne (by decide), mset_ne (by decide)]; exact m1
        · rw [mset_ne (by decide), mset_ne (by decide)]; exact m2
        · rw [mset_ne (by decide)]
          by_cases e : j = c
          · rw [e, ms_s]
          · rw [ms_n e, e1, p3 _ (by decide)]; exact hj
      | succ d ih =>
        intro i N hi f m1 m2 e1 e2 e3 e4
        have hMN := f.mb hM
        apply hX
        unfold w_m_findKept_B0
        refine m_manyChoices_ok hMN hR c0 c6 ⟨by omega, by omega, fun h => absurd h (by omega), fun _ => ?_⟩
        refine m_choose_ok hMN hR hW c0 c6 (by omega) (by omega) (fun N1 n1 n2 n3 => ?_)
        have O1 : Open N1 B c (dig B c i) := ⟨hMN.ag n3.ag, hR, hW, c0, c6, n1, by rw [n3.2 _ (by decide)]; exact m1, by rw [n3.2 _ (by decide)]; exact m2⟩
        refine m_barring_ok O1 (dig_ok hR hW c0 c6 i) (fun N2 b1 => ?_)
        have f2 : FrF M N2 := (f.trans n3.m.ff).trans b1.ff
        have O2 := O1.fr b1
        have hz := brr_zero (c := c) (p := i) hR
        have k1 : N2 82 = N 82 := by rw [b1 _ (by decide) (by decide) (by decide) (by decide) (by decide) (by decide) (by decide), n3.1 _ (by decide) (by decide)]
        have k2 : N2 66 = N 66 := by rw [b1 _ (by decide) (by decide) (by decide) (by decide) (by decide) (by decide) (by decide), n3.1 _ (by decide) (by decide)]
        have k3 : N2 67 = N 67 := by rw [b1 _ (by decide) (by decide) (by decide) (by decide) (by decide) (by decide) (by decide), n3.1 _ (by decide) (by decide)]
        obtain ⟨y, hy, hy2⟩ := setN_nat (fun j => B 12 j = c ∧ B 22 j = 0 ∧ bar1 B c (dig B c i) j) (B 11 0).toNat
        have hy : brr B c (dig B c i) (B 11 0).toNat = y := hy
        have hwd := b_words hR 0
        have hp16 : y < 65536 := Nat.lt_of_lt_of_le hy2 (Nat.pow_le_pow_right (n := 2) (i := (B 11 0).toNat) (j := 16) (by decide) (by omega))
        have nxt : ∀ z : Int, (z = 1 ∧ kept B c i ∨ z = 0 ∧ ¬ kept B c i) → w_m_findKept_j0 Q X c (cntN (fun p => kept B c p) i) i (729 * c + i) z N2 := by
          intro z hz
          unfold w_m_findKept_j0
          refine ⟨by omega, ?_⟩
          (intro N3 eN3; subst eN3)
          refine ⟨by omega, ?_⟩
          intro v ev _ _
          rw [ms_s] at ev
          have st : X (cntN (fun p => kept B c p) (i + 1)) (i + 1 : Nat) (mset N2 82 (729 * c + i) z) := by
            refine ih (i + 1) _ (by omega) (f2.sA (Or.inr (Or.inr rfl))) ?_ ?_ ?_ ?_ (fun x hx => ?_) (fun p hp => ?_)
            · rw [mset_ne (by decide)]; exact O2.2.2.2.2.2.2.1
            · rw [mset_ne (by decide)]; exact O2.2.2.2.2.2.2.2
            · rw [mset_ne (by decide), k2]; exact e1
            · rw [mset_ne (by decide), k3]; exact e2
            · rw [ms_n (by omega), k1]; exact e3 x hx
            · by_cases e : p = i
              · subst e
                rw [ms_s]
                rcases hz with ⟨rfl, hz⟩ | ⟨rfl, hz⟩
                · exact ⟨fun _ => hz, fun _ => rfl⟩
                · exact ⟨fun w => absurd w (by decide), fun w => absurd w hz⟩
              · rw [ms_n (by omega), k1]; exact e4 p (by omega)
          have ec : cntN (fun p => kept B c p) (i + 1) = cntN (fun p => kept B c p) i + z := by
            show cntN (fun p => kept B c p) i + _ = _
            rcases hz with ⟨rfl, hz⟩ | ⟨rfl, hz⟩
            · rw [if_pos hz]
            · rw [if_neg hz]
          rw [ec] at st
          refine ⟨fun h => ?_, fun h => ?_⟩
          · rw [(show z = 0 by omega)] at st ⊢; exact st
          · rw [(show z = 1 by omega)] at st ⊢; exact st
        rw [hy] at hz ⊢
        exact ⟨by omega, fun h => nxt 0 (Or.inr ⟨rfl, fun w => h (hz.mpr w)⟩), fun h => nxt 1 (Or.inl ⟨rfl, hz.mp h⟩)⟩
    exact key (many B c (nly B c)).toNat 0 M0 (by omega) f0.ff p1 p2 rfl rfl (fun _ _ => rfl) (fun p hp => absurd hp (by omega))
  · (intro b eb _ _; have eb : b = M0 67 c := eb)
    have hf : M0 66 c = 1 := by omega
    rw [(I0.2.2.2.2.2.2 c c0 c6 hf).1] at eb
    rw [eb]
    exact kk M0 I0 hf p1 p2 f0.ff (fun j hj => by rw [p3 _ (by decide)]; exact hj)
theorem m_findKept_ok {M B : Mem} {c : Int} {Q : Int → Mem → Prop} (I : Inv M B) (c0 : 0 ≤ c) (c6 : c < 6)
    (kk : ∀ N : Mem, Inv N B → N 66 c = 1 → N 12 22 = 0 → N 12 23 = 0 → FrF M N → Q (cntN (fun p => kept B c p) (many B c (nly B c)).toNat) N) : w_m_findKept M c Q := m_findKept_all_ok I c0 c6 (fun N a b d e f _ => kk N a b d e f)
