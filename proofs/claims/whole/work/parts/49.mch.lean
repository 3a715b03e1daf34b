/-! ===== the model's choices ===== -/
theorem lft_rng {B : Mem} {c p : Int} {n : Nat} (hp : 0 ≤ p) (hv : ∀ i, 0 ≤ B 5 i) : ∀ d, 0 ≤ lft B c n p d ∧ lft B c n p d ≤ p
  | 0 => ⟨hp, Int.le_refl _⟩
  | d + 1 => by
    have ih := lft_rng (c := c) (n := n) hp hv d
    unfold lft
    exact ⟨Int.ediv_nonneg ih.1 (hv _), Int.le_trans (Int.ediv_le_self _ ih.1) ih.2⟩
theorem vals_rng {B : Mem} (hR : RB B) (hW : WF B) {c : Int} (c0 : 0 ≤ c) (c6 : c < 6) {k : Nat} (hk : k < nly B c) : 1 ≤ B 5 (c * 6 + k) ∧ B 5 (c * 6 + k) ≤ 3 := by
  have h := nly_i hR c
  exact ⟨hW.1 c k c0 c6 (by omega) (by omega), (b_values hR _).2⟩
theorem dig_rng {B : Mem} (hR : RB B) (hW : WF B) {c p : Int} (c0 : 0 ≤ c) (c6 : c < 6) {k : Nat} (hk : k < nly B c) : 0 ≤ dig B c p k ∧ dig B c p k < B 5 (c * 6 + k) ∧ dig B c p k ≤ 2 := by
  have h := vals_rng hR hW c0 c6 hk
  have h1 := Int.emod_nonneg (lft B c (nly B c) p (nly B c - 1 - k)) (show B 5 (c * 6 + k) ≠ 0 by omega)
  have h2 := Int.emod_lt_of_pos (lft B c (nly B c) p (nly B c - 1 - k)) (show 0 < B 5 (c * 6 + k) by omega)
  unfold dig
  omega
theorem wgt_rng {B : Mem} (hR : RB B) (c : Int) (ch : Nat → Int) : ∀ k : Nat, 0 ≤ wgt B c ch k ∧ wgt B c ch k ≤ 9 ^ k
  | 0 => by unfold wgt; omega
  | k + 1 => by
    have := mul_rng (wgt_rng hR c ch k) (b_weight hR ((c * 6 + k) * 3 + ch k))
    unfold wgt
    rw [Int.pow_succ]
    exact this
theorem m_plain_ok {M : Mem} {Q : Mem → Prop} (kk : ∀ N, N 12 22 = 0 → N 12 23 = 0 → (∀ h, h ≠ 12 → N h = M h) → (∀ k : Int, k ≠ 22 → k ≠ 23 → N 12 k = M 12 k) → Q N) : w_m_plain M Q := by
  unfold w_m_plain
  (intro N1 eN1; subst eN1)
  (intro N2 eN2; subst eN2)
  exact kk _ (by rw [ms_n (by decide), ms_s]) ms_s (fun h hh => by rw [mset_ne hh, mset_ne hh]) (fun k k1 k2 => by rw [ms_n k2, ms_n k1])
/-- what choosing may change -/
def FrC (M N : Mem) : Prop := (∀ h, h ≠ 68 → h ≠ 12 → N h = M h) ∧ ∀ k : Int, k ≠ 17 → N 12 k = M 12 k
theorem FrC.rf {M : Mem} : FrC M M := ⟨fun _ _ _ => rfl, fun _ _ => rfl⟩
theorem FrC.ag {M N : Mem} (h : FrC M N) : Ag M N := by
  have t : ∀ q ∈ kTab, q.1 ≠ 68 ∧ (q.1 ≠ 12 ∨ (q.2 ≠ none ∧ q.2 ≠ some 17)) := by decide
  intro q hq
  have t1 := t q hq
  obtain ⟨q1, q2⟩ := q
  cases q2 with
  | none =>
    rcases t1.2 with e | e
    · exact h.1 q1 t1.1 e
    · exact absurd rfl e.1
  | some k =>
    by_cases e : q1 = 12
    · subst e
      rcases t1.2 with e | e
      · exact absurd rfl e
      · exact h.2 k (fun z => e.2 (by rw [z]))
    · exact congrFun (h.1 q1 t1.1 e) k
theorem pow9 : ∀ d : Nat, d < 7 → (9 : Int) ^ d ≤ 531441 := by decide
theorem pow3 : ∀ d : Nat, d < 7 → (3 : Int) ^ d ≤ 729 := by decide
theorem m_choose_ok {M B : Mem} {c p : Int} {Q : Mem → Prop} (hM : MB M B) (hR : RB B) (hW : WF B) (c0 : 0 ≤ c) (c6 : c < 6) (p0 : 0 ≤ p) (p1 : p ≤ 2147483647)
    (kk : ∀ N, (∀ k : Nat, k < nly B c → N 68 k = dig B c p k) → N 12 17 = wgt B c (dig B c p) (nly B c) → FrC M N → Q N) : w_m_choose M c p Q := by
  obtain ⟨hn, hn6⟩ := nly_i hR c
  unfold w_m_choose
  (intro N0 eN0; subst eN0)
  refine ⟨⟨c0, c6⟩, ?_⟩
  (intro a ea _ _; have ea : a = M 55 c := ea)
  rw [m_layers hM, hn] at ea
  subst ea
  unfold w_m_choose_L0
  intro X hX
  have key : ∀ (e d : Nat) (N : Mem), d + e = nly B c → FrC M N → (∀ k : Nat, k < nly B c → nly B c ≤ k + d → N 68 k = dig B c p k) → (∃ w : Int, N 12 17 = w ∧ 0 ≤ w ∧ w ≤ 9 ^ d ∧ wgt B c (dig B c p) (nly B c - d) * w = wgt B c (dig B c p) (nly B c)) → X (lft B c (nly B c) p d) ((nly B c : Int) - 1 - d) N := by
    intro e
    induction e with
    | zero =>
      intro d N hd h1 h2 h3
      obtain ⟨w, w1, w2, w3, w4⟩ := h3
      apply hX
      unfold w_m_choose_B0
      refine ⟨by omega, fun _ => kk N (fun k hk => h2 k hk (by omega)) ?_ h1, fun h => absurd h (by omega)⟩
      rw [(show nly B c - d = 0 by omega)] at w4
      rw [w1, ← w4]
      unfold wgt
      omega
    | succ e ih =>
      intro d N hd h1 h2 h3
      obtain ⟨w, w1, w2, w3, w4⟩ := h3
      have hN := hM.ag h1.ag
      have ex : ((nly B c : Int) - 1 - d) = ((nly B c - 1 - d : Nat) : Int) := by omega
      have hk6 : nly B c - 1 - d < nly B c := by omega
      have hl := lft_rng (c := c) (n := nly B c) p0 (fun i => (b_values hR i).1) d
      have hv := vals_rng hR hW c0 c6 hk6
      have hg := dig_rng (p := p) hR hW c0 c6 hk6
      have eg : dig B c p (nly B c - 1 - d) = lft B c (nly B c) p d % B 5 (c * 6 + (nly B c - 1 - d : Nat)) := by
        unfold dig
        rw [(show nly B c - 1 - (nly B c - 1 - d) = d by omega)]
      rw [ex]
      apply hX
      unfold w_m_choose_B0
      refine ⟨by omega, fun h => absurd h (by omega), fun _ => ⟨by omega, ?_⟩⟩
      (intro a ea _ _; have ea : a = N 58 (6 * c + ((nly B c - 1 - d : Nat) : Int)) := ea)
      rw [m_values hN, Int.mul_comm 6 c] at ea
      subst ea
      refine ⟨by omega, ?_⟩
      rw [← eg]
      refine ⟨by omega, ?_⟩
      (intro N1 eN1; subst eN1)
      refine ⟨by omega, ?_⟩
      (intro b eb _ _; have eb : b = N 58 (6 * c + ((nly B c - 1 - d : Nat) : Int)) := eb)
      rw [m_values hN, Int.mul_comm 6 c] at eb
      subst eb
      refine ⟨by omega, ?_⟩
      (intro w' ew' _ _; have ew' : w' = N 12 17 := ew')
      rw [w1] at ew'
      subst ew'
      refine ⟨by omega, ?_⟩
      intro g eg2 _ _
      rw [ms_s] at eg2
      subst eg2
      refine ⟨by omega, ?_⟩
      (intro v ev _ _; have ev : v = N 60 (3 * (6 * c + ((nly B c - 1 - d : Nat) : Int)) + dig B c p (nly B c - 1 - d)) := ev)
      rw [m_weight hN, (show 3 * (6 * c + ((nly B c - 1 - d : Nat) : Int)) + dig B c p (nly B c - 1 - d) = (c * 6 + ((nly B c - 1 - d : Nat) : Int)) * 3 + dig B c p (nly B c - 1 - d) by omega)] at ev
      have hw9 : 0 ≤ v ∧ v ≤ 9 := by rw [ev]; exact b_weight hR _
      have hm := mul_rng ⟨w2, w3⟩ hw9
      have hd6 := pow9 d (by omega)
      refine ⟨by omega, ?_⟩
      (intro N2 eN2; subst eN2)
      have := ih (d + 1) (mset (mset N 68 ((nly B c - 1 - d : Nat) : Int) (dig B c p (nly B c - 1 - d))) 12 17 (w' * v)) (by omega) ?_ (fun k hk hk2 => ?_) ⟨w' * v, ms_s, hm.1, by rw [Int.pow_succ]; exact hm.2, ?_⟩
      · rw [(show ((nly B c - 1 - d : Nat) : Int) + -1 = (nly B c : Int) - 1 - (d + 1 : Nat) by omega)]
        exact this
      · refine ⟨fun h a b => by rw [mset_ne b, mset_ne a]; exact h1.1 h a b, fun k hk => ?_⟩
        rw [ms_n hk, mset_ne (by decide)]
        exact h1.2 k hk
      · rw [mset_ne (by decide)]
        by_cases e3 : k = nly B c - 1 - d
        · rw [e3, ms_s]
        · have e4 : ¬ (k : Int) = ((nly B c - 1 - d : Nat) : Int) := fun z => e3 (Int.ofNat_inj.mp z)
          rw [ms_n e4]
          exact h2 k hk (by omega)
      · have es : nly B c - d = (nly B c - (d + 1)) + 1 := by omega
        have es2 : wgt B c (dig B c p) ((nly B c - (d + 1)) + 1) = wgt B c (dig B c p) (nly B c - (d + 1)) * B 7 ((c * 6 + (nly B c - (d + 1) : Nat)) * 3 + dig B c p (nly B c - (d + 1))) := rfl
        rw [es, es2] at w4
        rw [(show nly B c - (d + 1) = nly B c - 1 - d by omega)] at w4
        rw [(show nly B c - (d + 1) = nly B c - 1 - d by omega), ev, ← Int.mul_assoc, Int.mul_right_comm]
        exact w4
  have := key (nly B c) 0 (mset M 12 17 1) (by omega) ⟨fun h a b => mset_ne b, fun k hk => ms_n hk⟩ (fun k hk hk2 => absurd hk2 (by omega)) ⟨1, ms_s, by decide, by decide, by rw [Nat.sub_zero, Int.mul_one]⟩
  rw [(show ((nly B c : Int) - 1 - ((0 : Nat) : Int)) = (nly B c : Int) - 1 by omega)] at this
  exact this
theorem many_rng {B : Mem} (hR : RB B) (hW : WF B) {c : Int} (c0 : 0 ≤ c) (c6 : c < 6) : ∀ k : Nat, k ≤ nly B c → 1 ≤ many B c k ∧ many B c k ≤ 3 ^ k
  | 0, _ => by unfold many; omega
  | k + 1, h => by
    have ih := many_rng hR hW c0 c6 k (by omega)
    have hv := vals_rng hR hW c0 c6 (show k < nly B c by omega)
    have := mul_rng ⟨Int.le_trans (by decide) ih.1, ih.2⟩ ⟨Int.le_trans (by decide) hv.1, hv.2⟩
    have h1 : 1 * 1 ≤ many B c k * B 5 (c * 6 + k) := Int.mul_le_mul ih.1 hv.1 (by decide) (by omega)
    unfold many
    rw [Int.pow_succ]
    exact ⟨by omega, this.2⟩
theorem many_all {B : Mem} (hR : RB B) (hW : WF B) {c : Int} (c0 : 0 ≤ c) (c6 : c < 6) : 1 ≤ many B c (nly B c) ∧ many B c (nly B c) ≤ 729 := by
  have h := many_rng hR hW c0 c6 _ (Nat.le_refl _)
  have h6 := (nly_i hR c).2
  have := pow3 (nly B c) (by omega)
  omega
theorem m_manyChoices_ok {M B : Mem} {c : Int} {Q : Int → Prop} (hM : MB M B) (hR : RB B) (c0 : 0 ≤ c) (c6 : c < 6) (kk : Q (many B c (nly B c))) : w_m_manyChoices M c Q := by
  obtain ⟨hn, hn6⟩ := nly_i hR c
  unfold w_m_manyChoices w_m_manyChoices_L0
  intro X hX
  have key : ∀ (d i : Nat), i + d = nly B c → X (many B c i) i := by
    intro d
    induction d with
    | zero =>
      intro i hi
      apply hX
      unfold w_m_manyChoices_B0
      refine ⟨⟨c0, c6⟩, ?_⟩
      (intro a ea _ _; have ea : a = M 55 c := ea)
      rw [m_layers hM, hn] at ea
      rw [Nat.add_zero] at hi
      refine ⟨by omega, fun _ => by rw [hi]; exact kk, fun h => absurd h (by omega)⟩
    | succ d ih =>
      intro i hi
      apply hX
      unfold w_m_manyChoices_B0
      refine ⟨⟨c0, c6⟩, ?_⟩
      (intro a ea _ _; have ea : a = M 55 c := ea)
      rw [m_layers hM, hn] at ea
      refine ⟨by omega, fun h => absurd h (by omega), fun _ => ⟨by omega, ?_⟩⟩
      (intro b eb _ _; have eb : b = M 58 (6 * c + i) := eb)
      rw [m_values hM, Int.mul_comm 6 c] at eb
      subst eb
      exact ih (i + 1) (by omega)
  exact key (nly B c) 0 (by omega)
theorem m_letsGo_ok {M B : Mem} {c : Int} {P : Nat → Int × Int} {Q : Int → Prop} (hM : MB M B) (hR : RB B) (c0 : 0 ≤ c) (c6 : c < 6) (hpm : PM M P (nly B c)) (k1 : (∃ k, k < nly B c ∧ (P k).2 ≠ -1) → Q 1) (k0 : (¬ ∃ k, k < nly B c ∧ (P k).2 ≠ -1) → Q 0) : w_m_letsGo M c Q := by
  obtain ⟨hn, hn6⟩ := nly_i hR c
  unfold w_m_letsGo w_m_letsGo_L0
  intro X hX
  have key : ∀ (d i : Nat) (z : Int), i + d = nly B c → (z = 1 ∧ (∃ k, k < nly B c ∧ (P k).2 ≠ -1) ∨ z = 0 ∧ ∀ k, k < i → (P k).2 = -1) → X z i := by
    intro d
    induction d with
    | zero =>
      intro i z hi hz
      apply hX
      unfold w_m_letsGo_B0
      refine ⟨⟨c0, c6⟩, ?_⟩
      (intro a ea _ _; have ea : a = M 55 c := ea)
      rw [m_layers hM, hn] at ea
      refine ⟨by omega, fun _ => ⟨by omega, ?_⟩, fun h => absurd h (by omega)⟩
      rcases hz with ⟨rfl, h⟩ | ⟨rfl, h⟩
      · exact k1 h
      · exact k0 (fun ⟨k, hk, h2⟩ => h2 (h k (by omega)))
    | succ d ih =>
      intro i z hi hz
      apply hX
      unfold w_m_letsGo_B0
      refine ⟨⟨c0, c6⟩, ?_⟩
      (intro a ea _ _; have ea : a = M 55 c := ea)
      rw [m_layers hM, hn] at ea
      refine ⟨by omega, fun h => absurd h (by omega), fun _ => ⟨by omega, ?_⟩⟩
      rcases hz with ⟨rfl, h⟩ | ⟨rfl, h⟩
      · exact ⟨fun _ => ih (i + 1) 1 (by omega) (Or.inl ⟨rfl, h⟩), fun h => absurd h (by decide)⟩
      · refine ⟨fun h => absurd rfl h, fun _ => ⟨by omega, ?_⟩⟩
        (intro b eb _ _; have eb : b = M 70 i := eb)
        rw [(hpm i (by omega)).2] at eb
        refine ⟨fun hb => ih (i + 1) 0 (by omega) (Or.inr ⟨rfl, fun k hk => ?_⟩), fun hb => ih (i + 1) 1 (by omega) (Or.inl ⟨rfl, i, by omega, by omega⟩)⟩
        by_cases e : k = i
        · subst e; omega
        · exact h k (by omega)
  exact key (nly B c) 0 0 (by omega) (Or.inr ⟨rfl, fun k hk => absurd hk (by omega)⟩)
