/-! ===== the model finds what is kept ===== -/
theorem setN_nat (P : Nat → Prop) : ∀ n : Nat, ∃ y : Nat, setN P n = y ∧ y < 2 ^ n
  | 0 => ⟨0, rfl, by decide⟩
  | n + 1 => by
    obtain ⟨y, h1, h2⟩ := setN_nat P n
    have hp : (2 : Nat) ^ (n + 1) = 2 ^ n + 2 ^ n := by rw [Nat.pow_succ]; omega
    unfold setN
    by_cases h : P n
    · refine ⟨y + 2 ^ n, ?_, by omega⟩
      rw [if_pos h, h1, Int.natCast_add, Int.natCast_pow]
      rfl
    · exact ⟨y, by rw [if_neg h, h1, Int.add_zero], by omega⟩
theorem bOr_zero {x : Nat} (hx : x < 2147483648) : bOr x 0 = x := by
  have := bOr_nat (y := 0) hx (by decide)
  rw [Nat.or_zero] at this
  exact this
theorem pow2_16 : ∀ k : Nat, k < 16 → 2 ^ k ≤ 32768 := by decide
theorem bOr_add {x k : Nat} (hk : k < 16) (hx : x < 2 ^ k) : bOr x (bShl 1 k) = (x : Int) + 2 ^ k := by
  have h2 := pow2_16 k hk
  have e1 : bShl 1 k = ((1 * 2 ^ k : Nat) : Int) := bShl_nat (x := 1) (by omega) (by omega)
  rw [e1, Nat.one_mul, bOr_nat (by omega) (by omega)]
  have := Nat.two_pow_add_eq_or_of_lt hx 1
  rw [Nat.mul_one] at this
  rw [Nat.or_comm, ← this, Int.natCast_add, Int.natCast_pow, Int.add_comm]
  rfl
theorem setN_zero {P : Nat → Prop} : ∀ n : Nat, (setN P n = 0 ↔ ∀ i, i < n → ¬ P i)
  | 0 => ⟨fun _ i hi => absurd hi (by omega), fun _ => rfl⟩
  | n + 1 => by
    obtain ⟨y, h1, h2⟩ := setN_nat P n
    have ih := setN_zero (P := P) n
    unfold setN
    by_cases h : P n
    · rw [if_pos h]
      have : (0 : Int) < 2 ^ n := Int.pow_pos (by decide)
      exact ⟨fun z => absurd z (by omega), fun z => absurd h (z n (by omega))⟩
    · rw [if_neg h, Int.add_zero, ih]
      refine ⟨fun z i hi => ?_, fun z i hi => z i (by omega)⟩
      by_cases e : i = n
      · subst e; exact h
      · exact z i (by omega)
/-- what the model may change as it looks for words that bar -/
def FrB (M N : Mem) : Prop := ∀ h, h ≠ 69 → h ≠ 70 → h ≠ 71 → h ≠ 72 → h ≠ 73 → h ≠ 74 → h ≠ 81 → N h = M h
theorem FrB.rf {M : Mem} : FrB M M := fun _ _ _ _ _ _ _ _ => rfl
theorem FrB.trans {M N O : Mem} (h1 : FrB M N) (h2 : FrB N O) : FrB M O := fun h a b c d e f g => (h2 h a b c d e f g).trans (h1 h a b c d e f g)
theorem Fr6.bb {M N : Mem} (h : Fr6 M N) : FrB M N := fun x a b c d e f _ => h x a b c d e f
theorem FrB.ag {M N : Mem} (h : FrB M N) : Ag M N := by
  intro q hq
  have e : N q.1 = M q.1 := h q.1 (by revert q; decide) (by revert q; decide) (by revert q; decide) (by revert q; decide) (by revert q; decide) (by revert q; decide) (by revert q; decide)
  obtain ⟨q1, q2⟩ := q
  cases q2 with
  | none => exact e
  | some k => exact congrFun e k
/-- which shakes are known to let something go -/
def Gc (M B : Mem) (c : Int) (ch : Nat → Int) : Prop := ∀ q : Int, 0 ≤ q → q < 6 → M 81 q = -1 ∨ (M 81 q = 1 ∧ anyG B c q ch 0 0) ∨ (M 81 q = 0 ∧ ¬ anyG B c q ch 0 0)
section MKEPT
variable {M N B : Mem} {c : Int} {ch : Nat → Int}
/-- a choice lies open -/
def Open (M B : Mem) (c : Int) (ch : Nat → Int) : Prop := MB M B ∧ RB B ∧ WF B ∧ 0 ≤ c ∧ c < 6 ∧ (∀ k : Nat, k < nly B c → M 68 k = ch k) ∧ M 12 22 = 0 ∧ M 12 23 = 0
theorem Open.fr (h : Open M B c ch) (f : FrB M N) : Open N B c ch :=
  ⟨h.1.ag f.ag, h.2.1, h.2.2.1, h.2.2.2.1, h.2.2.2.2.1, fun k hk => by rw [f 68 (by decide) (by decide) (by decide) (by decide) (by decide) (by decide) (by decide)]; exact h.2.2.2.2.2.1 k hk, by rw [f 12 (by decide) (by decide) (by decide) (by decide) (by decide) (by decide) (by decide)]; exact h.2.2.2.2.2.2.1, by rw [f 12 (by decide) (by decide) (by decide) (by decide) (by decide) (by decide) (by decide)]; exact h.2.2.2.2.2.2.2⟩
theorem m_barsChoice_ok {i : Int} {Q : Int → Mem → Prop} (H : Open M B c ch) (G : Gc M B c ch) (i0 : 0 ≤ i) (i1 : i < B 11 0) (hc : B 12 i = c) (hok : okD B c ch)
    (kk : ∀ (r : Int) (N : Mem), (r = 1 ∧ bar1 B c ch i ∨ r = 0 ∧ ¬ bar1 B c ch i) → Gc N B c ch → FrB M N → Q r N) : w_m_barsChoice M i Q := by
  obtain ⟨hM, hR, hW, c0, c6, hch, hmo, hle⟩ := id H
  obtain ⟨hn, hn6⟩ := nly_i hR c
  have hwd := b_words hR 0
  have hwf := hW.2.2.2.2.2.2.2.2.1 i i0 i1
  have hsb := b_wsub hR i
  have hsh := b_shakes hR 0
  have hkd := b_wkind hR i
  rw [hc] at hwf
  -- behind the run
  have J1 : ∀ N : Mem, B 13 i ≠ 2 → FrB M N → Gc N B c ch → N 81 (B 14 i) ≠ -1 → w_m_barsChoice_j1 Q i (B 14 i) N := by
    intro N hk f g gn
    have HN := H.fr f
    have hs6 := hwf.2 hk
    unfold w_m_barsChoice_j1
    refine ⟨by omega, ?_⟩
    (intro a ea _ _; have ea : a = N 81 (B 14 i) := ea)
    refine ⟨by omega, ?_⟩
    (intro b eb _ _; have eb : b = N 76 i := eb)
    rw [m_wkind HN.1] at eb
    have hg := g (B 14 i) hsb.1 (by omega)
    refine ⟨fun e => kk 0 N (Or.inr ⟨rfl, ?_⟩) g f, fun e => kk 1 N (Or.inl ⟨rfl, ?_⟩) g f⟩
    · unfold bar1
      rw [if_neg hk]
      rcases hg with z | z | z
      · exact absurd z gn
      · rw [if_neg (by omega)]; exact fun y => y z.2
      · rw [if_pos (by omega)]; exact z.2
    · unfold bar1
      rw [if_neg hk]
      rcases hg with z | z | z
      · exact absurd z gn
      · rw [if_pos (by omega)]; exact z.2
      · rw [if_neg (by omega)]; exact z.2
  unfold w_m_barsChoice
  refine ⟨by omega, ?_⟩
  (intro a ea _ _; have ea : a = M 75 i := ea)
  rw [m_wcol hM, hc] at ea
  subst ea
  refine ⟨by omega, ?_⟩
  (intro b eb _ _; have eb : b = M 76 i := eb)
  rw [m_wkind hM] at eb
  refine ⟨fun h => ⟨by omega, ?_⟩, fun h => ⟨by omega, ?_⟩⟩
  · have hk : B 13 i ≠ 2 := by omega
    have hs6 := hwf.2 hk
    (intro q eq _ _; have eq : q = M 77 i := eq)
    rw [m_wsub hM] at eq
    subst eq
    intro g eg _ _
    refine ⟨fun hg => J1 M hk FrB.rf G (by omega), fun hg => ?_⟩
    refine m_runOf_ok ⟨hM, hR, hW, c0, c6, hsb.1, by omega, hch, hmo, hle, by decide, by decide⟩ (fun N h1 h2 => ?_)
    have HN := H.fr h2.bb
    have st : ∀ z : Int, (z = 1 ∧ anyG B a (B 14 i) ch 0 0 ∨ z = 0 ∧ ¬ anyG B a (B 14 i) ch 0 0) → w_m_barsChoice_j0 Q i (B 14 i) (B 14 i) z N := by
      intro z hz
      unfold w_m_barsChoice_j0
      refine ⟨by omega, ?_⟩
      (intro N1 eN1; subst eN1)
      refine J1 _ hk (h2.bb.trans (fun h _ _ _ _ _ _ e => mset_ne e)) (fun q q0 q6 => ?_) (by rw [ms_s]; omega)
      by_cases e : q = B 14 i
      · subst e
        rw [ms_s]
        exact Or.inr hz
      · rw [ms_n e, h2 81 (by decide) (by decide) (by decide) (by decide) (by decide) (by decide)]
        exact G q q0 q6
    refine m_letsGo_ok HN.1 hR c0 c6 h1 (fun z => ?_) (fun z => ?_)
    · (first | refine t1n ?_ | refine t1e ?_)
      exact st 1 (Or.inl ⟨rfl, z⟩)
    · (first | refine t0n ?_ | refine t0e ?_)
      exact st 0 (Or.inr ⟨rfl, z⟩)
  · have hk : B 13 i = 2 := by omega
    have hs6 := hwf.1 hk
    have es : B 14 i = ((B 14 i).toNat : Nat) := by omega
    have hd := hok (B 14 i).toNat (by omega)
    have hv := vals_rng hR hW c0 c6 (show (B 14 i).toNat < nly B a by omega)
    (intro l el _ _; have el : l = M 77 i := el)
    rw [m_wsub hM] at el
    subst el
    refine ⟨by omega, ?_⟩
    (intro l2 el2 _ _; have el2 : l2 = M 77 i := el2)
    rw [m_wsub hM] at el2
    subst el2
    (intro x ex _ _; have ex : x = M 68 (B 14 i) := ex)
    rw [es, hch _ (by omega)] at ex
    subst ex
    (intro v ev _ _; have ev : v = M 59 (3 * (6 * a + B 14 i) + ch (B 14 i).toNat) := ev)
    rw [m_value hM, (show 3 * (6 * a + B 14 i) + ch (B 14 i).toNat = (a * 6 + B 14 i) * 3 + ch (B 14 i).toNat by omega)] at ev
    refine ⟨by omega, ?_⟩
    (intro lo elo _ _; have elo : lo = M 78 i := elo)
    rw [m_wlow hM] at elo
    refine ⟨by omega, ?_⟩
    (intro hi ehi _ _; have ehi : hi = M 79 i := ehi)
    rw [m_whigh hM] at ehi
    refine m_in_ok (by omega) (by omega) (by omega) (fun z => ?_) (fun z1 z2 => ?_)
    · (first | refine t0n ?_ | refine t0e ?_)
      refine kk 1 M (Or.inl ⟨rfl, ?_⟩) G FrB.rf
      unfold bar1
      rw [if_pos hk, ← ev, ← elo, ← ehi]
      omega
    · (first | refine t1n ?_ | refine t1e ?_)
      refine kk 0 M (Or.inr ⟨rfl, ?_⟩) G FrB.rf
      unfold bar1
      rw [if_pos hk, ← ev, ← elo, ← ehi]
      exact fun y => y ⟨z1, z2⟩
theorem m_forget_ok {Q : Mem → Prop} (k : ∀ N : Mem, (∀ q : Int, 0 ≤ q → q < 6 → N 81 q = -1) → (∀ h, h ≠ 81 → N h = M h) → Q N) : w_m_forget M Q := by
  unfold w_m_forget w_m_forget_L0
  intro X hX
  have key : ∀ (d i : Nat) (N : Mem), i + d = 6 → (∀ c : Int, 0 ≤ c → c < i → N 81 c = -1) → (∀ h, h ≠ 81 → N h = M h) → X i N := by
    intro d
    induction d with
    | zero =>
      intro i N hi h1 h2
      apply hX
      unfold w_m_forget_B0
      exact ⟨by omega, fun _ => k N (fun c a b => h1 c a (by omega)) h2, fun h => absurd h (by omega)⟩
    | succ d ih =>
      intro i N hi h1 h2
      apply hX
      unfold w_m_forget_B0
      refine ⟨by omega, fun h => absurd h (by omega), fun _ => ⟨by omega, ?_⟩⟩
      (intro N1 eN1; subst eN1)
      refine ih (i + 1) _ (by omega) (fun c a b => ?_) (fun h hh => by rw [mset_ne hh]; exact h2 h hh)
      by_cases e : c = i
      · rw [e, ms_s]
      · rw [ms_n e]; exact h1 c a (by omega)
  exact key 6 0 M (by omega) (fun c a b => absurd b (by omega)) (fun _ _ => rfl)
/-- the words of a column, not struck, that bar a choice -/
noncomputable def brr (B : Mem) (c : Int) (ch : Nat → Int) : Nat → Int := setN (fun i => B 12 i = c ∧ B 22 i = 0 ∧ bar1 B c ch i)
theorem m_barring_ok {Q : Int → Mem → Prop} (H : Open M B c ch) (hok : okD B c ch) (kk : ∀ N : Mem, FrB M N → Q (brr B c ch (B 11 0).toNat) N) : w_m_barring M c Q := by
  obtain ⟨hM, hR, hW, c0, c6, hch, hmo, hle⟩ := id H
  have hwd := b_words hR 0
  unfold w_m_barring
  refine m_forget_ok (fun M0 g0 f0 => ?_)
  have f00 : FrB M M0 := fun h _ _ _ _ _ _ e => f0 h e
  unfold w_m_barring_L0
  intro X hX
  have key : ∀ (d i : Nat) (N : Mem), i + d = (B 11 0).toNat → FrB M N → Gc N B c ch → X (brr B c ch i) i N := by
    intro d
    induction d with
    | zero =>
      intro i N hi f g
      have HN := H.fr f
      apply hX
      unfold w_m_barring_B0
      (intro a ea _ _; have ea : a = N 12 26 := ea)
      rw [m_words HN.1] at ea
      rw [Nat.add_zero] at hi
      refine ⟨by omega, fun _ => by rw [hi]; exact kk N f, fun h => absurd h (by omega)⟩
    | succ d ih =>
      intro i N hi f g
      have HN := H.fr f
      obtain ⟨y, hy, hy2⟩ := setN_nat (fun i => B 12 i = c ∧ B 22 i = 0 ∧ bar1 B c ch i) i
      have hy : brr B c ch i = y := hy
      have hp := pow2_16 i (by omega)
      have no : ∀ O : Mem, FrB M O → Gc O B c ch → ¬ (B 12 i = c ∧ B 22 i = 0 ∧ bar1 B c ch i) → X (bOr (brr B c ch i) 0) (i + 1) O := by
        intro O o1 o2 o3
        have := ih (i + 1) O (by omega) o1 o2
        rw [hy, bOr_zero (by omega), ← hy]
        have e : brr B c ch (i + 1) = brr B c ch i := by
          show brr B c ch i + _ = _
          rw [if_neg o3, Int.add_zero]
        rw [e] at this
        exact this
      apply hX
      unfold w_m_barring_B0
      (intro a ea _ _; have ea : a = N 12 26 := ea)
      rw [m_words HN.1] at ea
      refine ⟨by omega, fun h => absurd h (by omega), fun _ => ⟨by omega, ?_⟩⟩
      (intro b eb _ _; have eb : b = N 75 i := eb)
      rw [m_wcol HN.1] at eb
      refine ⟨by omega, fun h => no N f g (fun z => h (eb.trans z.1)), fun h => ⟨by omega, ?_⟩⟩
      (intro s es _ _; have es : s = N 80 i := es)
      rw [m_struck HN.1] at es
      refine ⟨fun h2 => no N f g (fun z => h2 (es.trans z.2.1)), fun h2 => ?_⟩
      refine m_barsChoice_ok HN g (by omega) (by omega) (eb.symm.trans h) hok (fun r O o1 o2 o3 => ?_)
      rcases o1 with ⟨rfl, o1⟩ | ⟨rfl, o1⟩
      · (first | refine t1n ?_ | refine t1e ?_)
        have := ih (i + 1) O (by omega) (f.trans o3) o2
        rw [hy, bOr_add (by omega) hy2, ← hy]
        have e : brr B c ch (i + 1) = brr B c ch i + 2 ^ i := by
          show brr B c ch i + _ = _
          rw [if_pos ⟨eb.symm.trans h, es.symm.trans h2, o1⟩]
        rw [e] at this
        exact this
      · (first | refine t0n ?_ | refine t0e ?_)
        exact no O (f.trans o3) o2 (fun z => o1 z.2.2)
  exact key (B 11 0).toNat 0 M0 (by omega) f00 (fun q q0 q6 => Or.inl (g0 q q0 q6))
theorem brr_zero (hR : RB B) {p : Int} : brr B c (dig B c p) (B 11 0).toNat = 0 ↔ kept B c p := by
  have hwd := b_words hR 0
  unfold brr
  rw [setN_zero]
  refine ⟨fun h i i0 i1 h1 h2 h3 => ?_, fun h i hi z => h i (by omega) (by omega) z.1 z.2.1 z.2.2⟩
  have e : i = (i.toNat : Nat) := by omega
  rw [e] at h1 h2 h3
  exact h i.toNat (by omega) ⟨h1, h2, h3⟩
end MKEPT
theorem dig_ok {B : Mem} (hR : RB B) (hW : WF B) {c : Int} (c0 : 0 ≤ c) (c6 : c < 6) (p : Int) : okD B c (dig B c p) := fun k hk => ⟨(dig_rng hR hW c0 c6 hk).1, (dig_rng hR hW c0 c6 hk).2.1⟩
