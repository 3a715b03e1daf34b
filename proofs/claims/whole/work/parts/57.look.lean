/-! ===== the class looks at a column's choices ===== -/
theorem setN_bit (P : Nat → Prop) : ∀ n : Nat, ∃ y : Nat, setN P n = y ∧ y < 2 ^ n ∧ ∀ j, (y.testBit j = true ↔ j < n ∧ P j)
  | 0 => ⟨0, rfl, by decide, fun j => by rw [Nat.zero_testBit]; exact ⟨fun h => absurd h (by decide), fun h => absurd h.1 (by omega)⟩⟩
  | n + 1 => by
    obtain ⟨y, h1, h2, h3⟩ := setN_bit P n
    have hp : (2 : Nat) ^ (n + 1) = 2 ^ n + 2 ^ n := by rw [Nat.pow_succ]; omega
    unfold setN
    by_cases h : P n
    · refine ⟨2 ^ n + y, ?_, by omega, fun j => ?_⟩
      · rw [if_pos h, h1, Int.natCast_add, Int.natCast_pow, Int.add_comm]
        rfl
      · have e := Nat.two_pow_add_eq_or_of_lt h2 1
        rw [Nat.mul_one] at e
        rw [e, Nat.testBit_or, Nat.testBit_two_pow, Bool.or_eq_true, h3, decide_eq_true_eq]
        constructor
        · rintro (rfl | z)
          · exact ⟨by omega, h⟩
          · exact ⟨by omega, z.2⟩
        · intro z
          by_cases e2 : n = j
          · exact Or.inl e2
          · exact Or.inr ⟨by omega, z.2⟩
    · refine ⟨y, by rw [if_neg h, h1, Int.add_zero], by omega, fun j => (h3 j).trans ⟨fun z => ⟨by omega, z.2⟩, fun z => ⟨?_, z.2⟩⟩⟩
      by_cases e2 : j = n
      · subst e2; exact absurd z.2 h
      · omega
theorem sm_ind (p : Int) (p0 : 0 ≤ p) : ∀ n : Nat, sm (fun x => if x = p then 1 else 0) n = if p < n then 1 else 0
  | 0 => by rw [if_neg (by omega)]; rfl
  | n + 1 => by
    unfold sm
    rw [sm_ind p p0 n]
    by_cases h : (n : Int) = p
    · rw [if_pos h, if_neg (by omega), if_pos (by omega)]; rfl
    · rw [if_neg h]
      by_cases h2 : p < n
      · rw [if_pos h2, if_pos (by omega)]; rfl
      · rw [if_neg h2, if_neg (by omega)]; rfl
theorem sm_pos {f : Int → Int} : ∀ n : Nat, sm f n ≠ 0 → ∃ i : Nat, i < n ∧ f i ≠ 0
  | 0, h => absurd rfl h
  | n + 1, h => by
    by_cases e : f n = 0
    · have : sm f n ≠ 0 := fun z => h (by unfold sm; rw [z, e]; rfl)
      obtain ⟨i, h1, h2⟩ := sm_pos n this
      exact ⟨i, by omega, h2⟩
    · exact ⟨n, by omega, e⟩
/-- every place is turned to -/
theorem plI_all {B : Mem} (hR : RB B) (hW : WF B) {c : Int} (c0 : 0 ≤ c) (c6 : c < 6) {p : Int} (p0 : 0 ≤ p) (p1 : p < many B c (nly B c)) : ∃ i : Nat, i < (many B c (nly B c)).toNat ∧ plI B c i = p := by
  have h := sm_plI hR hW c0 c6 (fun x => if x = p then 1 else 0)
  rw [sm_ind p p0, if_pos (by omega)] at h
  obtain ⟨i, h1, h2⟩ := sm_pos _ (by rw [h]; decide)
  refine ⟨i, h1, ?_⟩
  by_cases e : plI B c i = p
  · exact e
  · exact absurd (if_neg e) h2
theorem bar1_cg {B : Mem} (hR : RB B) (hW : WF B) {c : Int} {ch ch' : Nat → Int} {i : Int} (i0 : 0 ≤ i) (i1 : i < B 11 0) (hc : B 12 i = c) (h : ∀ k, k < nly B c → ch k = ch' k) : bar1 B c ch i ↔ bar1 B c ch' i := by
  have hn := nly_i hR c
  have hwf := hW.2.2.2.2.2.2.2.2.1 i i0 i1
  have hsb := b_wsub hR i
  rw [hc] at hwf
  have hg : ∀ q, anyG B c q ch 0 0 ↔ anyG B c q ch' 0 0 := by
    intro q
    have e : ∀ k, k < nly B c → fin B c q ch 0 0 k = fin B c q ch' 0 0 k := fun k hk => FF_cg _ k hk (fun j _ h3 => h j h3)
    exact ⟨fun ⟨k, h1, h2⟩ => ⟨k, h1, by rw [← e k h1]; exact h2⟩, fun ⟨k, h1, h2⟩ => ⟨k, h1, by rw [e k h1]; exact h2⟩⟩
  unfold bar1
  by_cases hk : B 13 i = 2
  · have := hwf.1 hk
    rw [if_pos hk, if_pos hk, h (B 14 i).toNat (by omega)]
  · rw [if_neg hk, if_neg hk]
    by_cases h0 : B 13 i = 0
    · rw [if_pos h0, if_pos h0]; exact hg _
    · rw [if_neg h0, if_neg h0]; exact not_congr (hg _)
section LOOK
variable {M N O B : Mem} {c : Int}
/-- behind n turns: the words D all over, the words E at the places turned to -/
def Av (M B : Mem) (c : Int) (n : Nat) (D E : Nat → Prop) : Prop := ∀ p : Int, 0 ≤ p → p < many B c (nly B c) → ∃ y : Nat, M 37 (c * 729 + p) = y ∧ y < 65536 ∧ ∀ j, (y.testBit j = true ↔ (D j ∨ (E j ∧ ∃ m : Nat, m < n ∧ plI B c m = p)) ∧ bar1 B c (dig B c p) j)
def Aw (M B : Mem) (c : Int) (D : Nat → Prop) : Prop := ∀ p : Int, 0 ≤ p → p < many B c (nly B c) → ∃ y : Nat, M 37 (c * 729 + p) = y ∧ y < 65536 ∧ ∀ j, (y.testBit j = true ↔ D j ∧ bar1 B c (dig B c p) j)
theorem Aw.go {D : Nat → Prop} (E : Nat → Prop) (h : Aw M B c D) : Av M B c 0 D E := fun p p0 p1 => by
  obtain ⟨y, h1, h2, h3⟩ := h p p0 p1
  refine ⟨y, h1, h2, fun j => (h3 j).trans ⟨fun z => ⟨Or.inl z.1, z.2⟩, fun z => ⟨?_, z.2⟩⟩⟩
  rcases z.1 with w | ⟨_, m, hm, _⟩
  · exact w
  · exact absurd hm (by omega)
theorem Av.stop {D E D' : Nat → Prop} (hR : RB B) (hW : WF B) (c0 : 0 ≤ c) (c6 : c < 6) (h : Av M B c (many B c (nly B c)).toNat D E) (hD : ∀ j, D' j ↔ D j ∨ E j) : Aw M B c D' := fun p p0 p1 => by
  obtain ⟨y, h1, h2, h3⟩ := h p p0 p1
  refine ⟨y, h1, h2, fun j => (h3 j).trans ⟨fun z => ⟨(hD j).mpr (z.1.imp id And.left), z.2⟩, fun z => ⟨((hD j).mp z.1).imp id (fun w => ⟨w, plI_all hR hW c0 c6 p0 p1⟩), z.2⟩⟩⟩
theorem Av.fr {D E : Nat → Prop} {n : Nat} (h : Av M B c n D E) (e : N 37 = M 37) : Av N B c n D E := fun p p0 p1 => by rw [e]; exact h p p0 p1
theorem Aw.fr {D : Nat → Prop} (h : Aw M B c D) (e : N 37 = M 37) : Aw N B c D := fun p p0 p1 => by rw [e]; exact h p p0 p1
/-- a turn's place is left -/
theorem Av.skip {D E : Nat → Prop} {n : Nat} (h : Av M B c n D E) (hn : ∀ j, E j → ¬ bar1 B c (dig B c (plI B c n)) j) : Av M B c (n + 1) D E := fun p p0 p1 => by
  obtain ⟨y, h1, h2, h3⟩ := h p p0 p1
  refine ⟨y, h1, h2, fun j => (h3 j).trans ⟨fun z => ⟨z.1.imp id (fun ⟨a, m, b, d⟩ => ⟨a, m, by omega, d⟩), z.2⟩, fun z => ⟨z.1.imp id (fun ⟨a, m, b, d⟩ => ⟨a, m, ?_, d⟩), z.2⟩⟩⟩
  by_cases e : m = n
  · subst e
    rw [← d] at z
    exact absurd z.2 (hn j a)
  · omega
/-- a turn's place takes on more words -/
theorem Av.put {D E : Nat → Prop} {n : Nat} {z : Int} (h : Av M B c n D E) (r : 0 ≤ plI B c n ∧ plI B c n < many B c (nly B c)) (hz : ∀ y : Nat, M 37 (c * 729 + plI B c n) = y → y < 65536 → ∃ y' : Nat, z = y' ∧ y' < 65536 ∧ ∀ j, (y'.testBit j = true ↔ y.testBit j = true ∨ (E j ∧ bar1 B c (dig B c (plI B c n)) j))) : Av (mset M 37 (c * 729 + plI B c n) z) B c (n + 1) D E := fun p p0 p1 => by
  obtain ⟨y, h1, h2, h3⟩ := h p p0 p1
  by_cases e : p = plI B c n
  · subst e
    obtain ⟨y', z1, z2, z3⟩ := hz y h1 h2
    refine ⟨y', by rw [ms_s]; exact z1, z2, fun j => ?_⟩
    rw [z3, h3]
    constructor
    · rintro (w | w)
      · exact ⟨w.1.imp id (fun ⟨a, m, b, d⟩ => ⟨a, m, by omega, d⟩), w.2⟩
      · exact ⟨Or.inr ⟨w.1, n, by omega, rfl⟩, w.2⟩
    · intro w
      rcases w.1 with v | v
      · exact Or.inl ⟨Or.inl v, w.2⟩
      · exact Or.inr ⟨v.1, w.2⟩
  · refine ⟨y, by rw [ms_n (by omega)]; exact h1, h2, fun j => (h3 j).trans ⟨fun z => ⟨z.1.imp id (fun ⟨a, m, b, d⟩ => ⟨a, m, by omega, d⟩), z.2⟩, fun z => ⟨z.1.imp id (fun ⟨a, m, b, d⟩ => ⟨a, m, ?_, d⟩), z.2⟩⟩⟩
    by_cases e2 : m = n
    · subst e2; exact absurd d.symm e
    · omega
/-- what a look may change, but for the mark that it was -/
def FrL (M N : Mem) : Prop := ∀ h, h ≠ 1 → h ≠ 13 → h ≠ 14 → h ≠ 15 → h ≠ 16 → h ≠ 17 → h ≠ 18 → h ≠ 36 → h ≠ 37 → N h = M h
theorem FrL.rf : FrL M M := fun _ _ _ _ _ _ _ _ _ _ => rfl
theorem FrL.trans (h1 : FrL M N) (h2 : FrL N O) : FrL M O := fun h a b c d e f g i j => (h2 h a b c d e f g i j).trans (h1 h a b c d e f g i j)
theorem FrT.l (h : FrT M N) : FrL M N := fun x a b c d e f g _ _ => h x a b c d e f g
theorem FrL.sA {i z : Int} (h : FrL M N) : FrL M (mset N 37 i z) := fun x a b c d e f g k j => by rw [mset_ne j]; exact h x a b c d e f g k j
theorem FrL.sC {i z : Int} (h : FrL M N) : FrL M (mset N 36 i z) := fun x a b c d e f g k j => by rw [mset_ne k]; exact h x a b c d e f g k j
theorem FrL.cb (h : FrL M N) (hC : CB M B) : CB N B := by
  have t : ∀ q ∈ cTab, q.2.1 ≠ 1 ∧ q.2.1 ≠ 13 ∧ q.2.1 ≠ 14 ∧ q.2.1 ≠ 15 ∧ q.2.1 ≠ 16 ∧ q.2.1 ≠ 17 ∧ q.2.1 ≠ 18 ∧ q.2.1 ≠ 36 ∧ q.2.1 ≠ 37 := by decide
  intro q hq
  have h1 := hC q hq
  obtain ⟨t1, t2, t3, t4, t5, t6, t7, t8, t9⟩ := t q hq
  have e := h q.2.1 t1 t2 t3 t4 t5 t6 t7 t8 t9
  obtain ⟨q0, q1, q2⟩ := q
  cases q2 with
  | none => exact e.trans h1
  | some k => exact (congrFun e k).trans h1
theorem TrB.l {ch : Nat → Int} {i z : Int} (h : TrB M B c ch) : TrB (mset M 37 i z) B c ch :=
  h.fr (mset_ne (by decide)) (mset_ne (by decide)) ((FrL.rf.sA).cb h.hC)
/-- the other columns' rows stay -/
def Oth (M N : Mem) (c : Int) : Prop := ∀ x : Int, ¬ (c * 729 ≤ x ∧ x < c * 729 + 729) → N 37 x = M 37 x
theorem Oth.trans (h1 : Oth M N c) (h2 : Oth N O c) : Oth M O c := fun x h => (h2 x h).trans (h1 x h)
theorem Oth.eq (h : N 37 = M 37) : Oth M N c := fun x _ => congrFun h x
theorem Oth.s {p z : Int} (h : Oth M N c) (p0 : 0 ≤ p) (p1 : p < 729) : Oth M (mset N 37 (c * 729 + p) z) c := fun x hx => by rw [ms_n (by omega)]; exact h x hx
theorem sounding_ok {i : Nat} {D : Nat → Prop} {Q : Mem → Prop} (hC : CB M B) (hR : RB B) (hW : WF B) (c0 : 0 ≤ c) (c6 : c < 6) (hch : M 36 c = many B c (nly B c)) (i1 : (i : Int) < B 11 0) (hc : B 12 i = c) (hk : B 13 i = 2) (A : Aw M B c D)
    (kk : ∀ N, Aw N B c (fun j => D j ∨ j = i) → FrL M N → N 36 = M 36 → Oth M N c → Q N) : w_Words_lookBySounding M c i Q := by
  obtain ⟨hn, hn6⟩ := nly_i hR c
  have hwd := b_words hR 0
  have hma := many_all hR hW c0 c6
  have hsb := b_wsub hR i
  have hwf := (hW.2.2.2.2.2.2.2.2.1 i (by omega) i1).1 hk
  rw [hc] at hwf
  unfold w_Words_lookBySounding
  refine begin_ok hC hR hW c0 c6 (fun M0 b1 b2 b3 => ?_)
  have a0 : M0 37 = M 37 := b2 _ (by decide) (by decide) (by decide) (by decide) (by decide) (by decide) (by decide)
  have a1 : M0 36 = M 36 := b2 _ (by decide) (by decide) (by decide) (by decide) (by decide) (by decide) (by decide)
  unfold w_Words_lookBySounding_L0
  intro X hX
  have key : ∀ (d n : Nat) (N : Mem), n + d = (many B c (nly B c)).toNat → TrB N B c (chI B c n) → (-1 ≤ N 1 16 ∧ N 1 16 < (nly B c : Nat)) → FrL M N → N 36 = M 36 → Oth M N c → Av N B c n D (fun j => j = i) → X n N := by
    intro d
    induction d with
    | zero =>
      intro n N hd h1 h2 h3 h4 h6 h5
      rw [Nat.add_zero] at hd
      apply hX
      unfold w_Words_lookBySounding_B0
      refine ⟨⟨c0, c6⟩, ?_⟩
      (intro a ea _ _; have ea : a = N 36 c := ea)
      rw [h4, hch] at ea
      rw [hd] at h5
      refine ⟨by omega, fun _ => kk N (h5.stop hR hW c0 c6 (fun j => Iff.rfl)) h3 h4 h6, fun h => absurd h (by omega)⟩
    | succ d ih =>
      intro n N hd h1 h2 h3 h4 h6 h5
      have hpl := plI_rng hR hW c0 c6 (n : Int)
      have hdig : ∀ k, k < nly B c → dig B c (plI B c n) k = chI B c n k := fun k hk => dig_plc hR hW c0 c6 (chI_ok hR hW c0 c6 n) hk
      have hbar := bar1_cg hR hW (i := i) (by omega) i1 hc hdig
      have nxt : ∀ O : Mem, TrB O B c (chI B c n) → O 1 16 = N 1 16 → FrL M O → O 36 = M 36 → Oth M O c → Av O B c (n + 1) D (fun j => j = i) → w_Words_lookBySounding_j0 Q X c i n O := by
        intro O o1 o2 o3 o4 o6 o5
        unfold w_Words_lookBySounding_j0
        refine advance_ok o1 (by rw [o2]; exact h2) (fun P p1 p2 p3 p4 p5 => ?_)
        have f := p2.t
        rw [o2] at p3
        refine ih (n + 1) P (by omega) p1 (by omega) (o3.trans f.l) ((f _ (by decide) (by decide) (by decide) (by decide) (by decide) (by decide) (by decide)).trans o4) (o6.trans (Oth.eq (f _ (by decide) (by decide) (by decide) (by decide) (by decide) (by decide) (by decide)))) (o5.fr (f _ (by decide) (by decide) (by decide) (by decide) (by decide) (by decide) (by decide)))
      apply hX
      unfold w_Words_lookBySounding_B0
      refine ⟨⟨c0, c6⟩, ?_⟩
      (intro a ea _ _; have ea : a = N 36 c := ea)
      rw [h4, hch] at ea
      refine ⟨by omega, fun h => absurd h (by omega), fun _ => ⟨by omega, ?_⟩⟩
      (intro s es _ _; have es : s = N 33 i := es)
      rw [c_wsub h1.hC] at es
      have es2 : s = (s.toNat : Nat) := by omega
      rw [es2]
      refine valueAt_ok h1 (by omega) ⟨by omega, ?_⟩
      (intro lo elo _ _; have elo : lo = N 34 i := elo)
      rw [c_wlow h1.hC] at elo
      refine ⟨by omega, ?_⟩
      (intro hi ehi _ _; have ehi : hi = N 35 i := ehi)
      rw [c_whigh h1.hC] at ehi
      have hv := b_value hR ((c * 6 + s.toNat) * 3 + chI B c n s.toNat)
      have hb2 : bar1 B c (chI B c n) i ↔ ¬ (lo ≤ B 6 ((c * 6 + s.toNat) * 3 + chI B c n s.toNat) ∧ B 6 ((c * 6 + s.toNat) * 3 + chI B c n s.toNat) ≤ hi) := by
        unfold bar1
        rw [if_pos hk, ← elo, ← ehi, ← es, ← es2]
      refine S_beyond_ok (by omega) (by omega) (by omega) (fun hz => ?_) (fun z1 z2 => ?_)
      · (first | refine t1n ?_ | refine t1e ?_)
        refine place_ok h1 ⟨by show 0 ≤ c * 729 + plI B c n ∧ _; constructor; omega; show c * 729 + plI B c n < 4374; omega, ?_⟩
        intro v ev _ _
        have ev : v = N 37 (c * 729 + plI B c n) := ev
        obtain ⟨y, y1, y2, y3⟩ := h5 (plI B c n) hpl.1 hpl.2
        obtain ⟨y', q1, q2, q3⟩ := bOr_set (x := y) (k := i) y2 (by omega)
        rw [y1] at ev
        subst ev
        rw [q1]
        refine ⟨⟨by show 0 ≤ c * 729 + plI B c n ∧ _; constructor; omega; show c * 729 + plI B c n < 4374; omega, by omega⟩, ?_⟩
        (intro N1 eN1; subst eN1)
        refine nxt _ h1.l (by rw [mset_ne (by decide)]) h3.sA (by rw [mset_ne (by decide)]; exact h4) (h6.s hpl.1 (Int.lt_of_lt_of_le hpl.2 hma.2)) (h5.put hpl (fun w w1 w2 => ⟨y', rfl, q2, fun j => ?_⟩))
        rw [y1] at w1
        have w1 : y = w := Int.ofNat_inj.mp w1
        subst w1
        rw [q3, Bool.or_eq_true, decide_eq_true_eq]
        refine or_congr Iff.rfl ⟨fun e => ⟨e, ?_⟩, fun e => e.1⟩
        subst e
        exact hbar.mpr (hb2.mpr (by omega))
      · (first | refine t0n ?_ | refine t0e ?_)
        refine nxt N h1 rfl h3 h4 h6 (h5.skip (fun j e => ?_))
        subst e
        exact fun w => absurd (hb2.mp (hbar.mp w)) (fun u => u ⟨z1, z2⟩)
  exact key (many B c (nly B c)).toNat 0 M0 (by omega) (by rw [(show ((0 : Nat) : Int) = 0 from rfl), chI_zero]; exact b1) (by omega) b2.l a1 (Oth.eq a0) ((A.fr a0).go _)
end LOOK
