/-! ===== the class reads ===== -/
/-- how the reader stands: place, clauses, flaw, its place, draft -/
def RS (N M B : Mem) (a : Nat) (c f fa : Int) (D : Int → Int) : Prop := N 11 5 = a ∧ N 11 6 = c ∧ N 11 2 = f ∧ N 11 3 = fa ∧ (∀ j : Int, 0 ≤ j → j < 25 → N 51 j = D j) ∧ N 11 1 = B 38 0 ∧ N 52 = B 37 ∧ (∀ h, h ≠ 11 → h ≠ 51 → N h = M h)
section CREAD
variable {M N B : Mem} {c f fa : Int} {D : Int → Int} {p : Nat}
theorem RS.at_ {p' : Nat} {z : Int} (h : RS N M B p c f fa D) (e : z = p') : RS (mset N 11 5 z) M B p' c f fa D := by
  obtain ⟨h1, h2, h3, h4, h5, h6, h7, h8⟩ := h
  refine ⟨by rw [ms_s]; exact e, by rw [ms_n (by decide)]; exact h2, by rw [ms_n (by decide)]; exact h3, by rw [ms_n (by decide)]; exact h4, fun j a b => by rw [mset_ne (by decide)]; exact h5 j a b, by rw [ms_n (by decide)]; exact h6, by rw [mset_ne (by decide)]; exact h7, fun h a b => by rw [mset_ne a]; exact h8 h a b⟩
theorem RS.cl {z : Int} (h : RS N M B p c f fa D) : RS (mset N 11 6 z) M B p z f fa D := by
  obtain ⟨h1, h2, h3, h4, h5, h6, h7, h8⟩ := h
  refine ⟨by rw [ms_n (by decide)]; exact h1, by rw [ms_s], by rw [ms_n (by decide)]; exact h3, by rw [ms_n (by decide)]; exact h4, fun j a b => by rw [mset_ne (by decide)]; exact h5 j a b, by rw [ms_n (by decide)]; exact h6, by rw [mset_ne (by decide)]; exact h7, fun h a b => by rw [mset_ne a]; exact h8 h a b⟩
theorem RS.fl {x y : Int} (h : RS N M B p c f fa D) : RS (mset (mset N 11 2 x) 11 3 y) M B p c x y D := by
  obtain ⟨h1, h2, h3, h4, h5, h6, h7, h8⟩ := h
  refine ⟨by rw [ms_n (by decide), ms_n (by decide)]; exact h1, by rw [ms_n (by decide), ms_n (by decide)]; exact h2, by rw [ms_n (by decide), ms_s], by rw [ms_s], fun j a b => by rw [mset_ne (by decide), mset_ne (by decide)]; exact h5 j a b, by rw [ms_n (by decide), ms_n (by decide)]; exact h6, by rw [mset_ne (by decide), mset_ne (by decide)]; exact h7, fun h a b => by rw [mset_ne a, mset_ne a]; exact h8 h a b⟩
theorem RS.dr {i z : Int} (h : RS N M B p c f fa D) : RS (mset N 51 i z) M B p c f fa (putD D i z) := by
  obtain ⟨h1, h2, h3, h4, h5, h6, h7, h8⟩ := h
  refine ⟨by rw [mset_ne (by decide)]; exact h1, by rw [mset_ne (by decide)]; exact h2, by rw [mset_ne (by decide)]; exact h3, by rw [mset_ne (by decide)]; exact h4, fun j a b => by rw [mset_eq]; show (if j = i then z else N 51 j) = if j = i then z else D j; rw [h5 j a b], by rw [mset_ne (by decide)]; exact h6, by rw [mset_ne (by decide)]; exact h7, fun h a b => by rw [mset_ne b]; exact h8 h a b⟩
theorem skip_ok {Q : Mem → Prop} (hR : RB B) (H : RS N M B p c f fa D) (hp : (p : Int) ≤ B 38 0) (kk : ∀ N', RS N' M B (sk B p) c f fa D → Q N') : w_Reader_skipBlanks N Q := by
  have ht := b_tlen hR 0
  unfold w_Reader_skipBlanks w_Reader_skipBlanks_L0
  intro X hX
  have key : ∀ (d p : Nat) (N : Mem), p + d = 200 → RS N M B p c f fa D → (p : Int) ≤ B 38 0 → (∀ N', RS N' M B (sk B p) c f fa D → Q N') → X N := by
    intro d
    induction d with
    | zero =>
      intro p N hd H hp kk
      apply hX
      unfold w_Reader_skipBlanks_B0
      (intro a ea _ _; have ea : a = N 11 5 := ea)
      rw [H.1] at ea
      (intro b eb _ _; have eb : b = N 11 1 := eb)
      rw [H.2.2.2.2.2.1] at eb
      rw [(show sk B p = p from sc_stop (fun z => by omega))] at kk
      exact ⟨fun _ => kk N H, fun h => absurd h (by omega)⟩
    | succ d ih =>
      intro p N hd H hp kk
      apply hX
      unfold w_Reader_skipBlanks_B0
      (intro a ea _ _; have ea : a = N 11 5 := ea)
      rw [H.1] at ea
      (intro b eb _ _; have eb : b = N 11 1 := eb)
      rw [H.2.2.2.2.2.1] at eb
      have stop : ¬ ((p : Int) < B 38 0 ∧ 32 ≤ B 37 p ∧ B 37 p ≤ 32) → Q N := fun h => by
        rw [(show sk B p = p from sc_stop h)] at kk
        exact kk N H
      refine ⟨fun h => stop (fun z => by omega), fun h => ?_⟩
      (intro x ex _ _; have ex : x = N 11 5 := ex)
      rw [H.1] at ex
      refine ⟨by omega, ?_⟩
      (intro y ey _ _; have ey : y = N 52 x := ey)
      rw [H.2.2.2.2.2.2.1, ex] at ey
      refine ⟨fun h2 => stop (fun z => h2 (by omega)), fun h2 => ?_⟩
      (intro z ez _ _; have ez : z = N 11 5 := ez)
      rw [H.1] at ez
      refine ⟨by omega, ?_⟩
      (intro N1 eN1; subst eN1)
      rw [(show sk B p = sk B (p + 1) from sc_go hR (by omega))] at kk
      exact ih (p + 1) _ (by omega) (H.at_ (by omega)) (by omega) kk
  exact key (200 - p) p N (by omega) H hp kk
theorem fail_ok {x y : Int} {Q : Mem → Prop} (H : RS N M B p c f fa D) (hx : 0 ≤ x ∧ x ≤ 4) (hy : -1 ≤ y ∧ y ≤ 200) (k0 : f = 0 → ∀ N', RS N' M B p c x y D → Q N') (k1 : f ≠ 0 → Q N) : w_Reader_fail N x y Q := by
  unfold w_Reader_fail
  (intro a ea _ _; have ea : a = N 11 2 := ea)
  rw [H.2.2.1] at ea
  refine ⟨fun h => ⟨hx, ?_⟩, fun h => k1 (fun z => h (ea.trans z))⟩
  (intro N1 eN1; subst eN1)
  refine ⟨hy, ?_⟩
  (intro N2 eN2; subst eN2)
  exact k0 (ea.symm.trans h) _ H.fl
theorem isNext_ok {x : Int} {Q : Int → Prop} (hR : RB B) (H : RS N M B p c f fa D) (hp : (p : Int) ≤ B 38 0) (hx : R32 x) (k1 : (p : Int) < B 38 0 ∧ B 37 p = x → Q 1) (k0 : ¬ ((p : Int) < B 38 0 ∧ B 37 p = x) → Q 0) : w_Reader_isNext N x Q := by
  have ht := b_tlen hR 0
  unfold w_Reader_isNext
  (intro a ea _ _; have ea : a = N 11 5 := ea)
  rw [H.1] at ea
  (intro b eb _ _; have eb : b = N 11 1 := eb)
  rw [H.2.2.2.2.2.1] at eb
  refine ⟨fun h => k0 (fun z => by omega), fun h => ?_⟩
  (intro y ey _ _; have ey : y = N 11 5 := ey)
  rw [H.1] at ey
  refine ⟨by omega, ?_⟩
  (intro z ez _ _; have ez : z = N 52 y := ez)
  rw [H.2.2.2.2.2.2.1, ey] at ez
  exact ⟨hx, fun h2 => k0 (fun w => h2 (ez.trans w.2)), fun h2 => k1 ⟨by omega, ez.symm.trans h2⟩⟩
theorem strT : ∀ k : Nat, k < 12 → strLen.getD k 0 = (wsp k).length ∧ (wsp k).length ≤ 6 ∧ ∀ j : Nat, j < (wsp k).length → ((strByt.getD k []).getD j 0).toInt = (wsp k).getD j 0 := by decide
theorem sIx_lt (i : Nat) (h : i < 26) : sIx i < 12 := by
  unfold sIx
  split
  · omega
  · split <;> omega
theorem spelling_ok {i : Nat} {Q : Nat → Prop} (hi : i < 26) (kk : Q (211 + sIx i)) : w_Reader_spelling N i Q := by
  have go : ∀ k : Nat, k < 26 → (i : Int) = k → Q (211 + sIx k) := fun k hk e => by
    have : i = k := by omega
    subst this
    exact kk
  unfold w_Reader_spelling
  exact ⟨by omega, fun h => absurd h (by omega), go 0 (by decide), go 1 (by decide), go 2 (by decide), go 3 (by decide), go 4 (by decide), go 5 (by decide), go 6 (by decide), go 7 (by decide), go 8 (by decide), go 9 (by decide), go 10 (by decide), go 11 (by decide), go 12 (by decide), go 13 (by decide), go 14 (by decide), go 15 (by decide), go 16 (by decide), go 17 (by decide), go 18 (by decide), go 19 (by decide), go 20 (by decide), go 21 (by decide), go 22 (by decide), go 23 (by decide), go 24 (by decide), go 25 (by decide)⟩
theorem isSpelt_ok {e i : Nat} {Q : Int → Prop} (ht : N 52 = B 37) (hi : i < 26) (he : p ≤ e) (h2 : e ≤ 200) (k1 : isSp B p (e - p) i → Q 1) (k0 : ¬ isSp B p (e - p) i → Q 0) : w_Reader_isSpelt N p e (211 + sIx i) Q := by
  have hk := sIx_lt i hi
  obtain ⟨t1, t2, t3⟩ := strT (sIx i) hk
  unfold w_Reader_isSpelt
  refine ⟨sIx i, hk, rfl, ?_⟩
  rw [t1]
  by_cases z : (wsp (sIx i)).length = 0
  · rw [if_pos z]
    refine ⟨by decide, fun _ => k0 (fun y => y.1 (List.eq_nil_of_length_eq_zero z)), fun y => absurd y (by decide)⟩
  · rw [if_neg z]
    refine ⟨by decide, fun y => absurd rfl y, fun _ => ⟨sIx i, hk, rfl, ?_⟩⟩
    rw [t1]
    refine ⟨by omega, by omega, fun hl => ?_, fun hl => k0 (fun y => hl (by have := y.2.1; omega))⟩
    unfold w_Reader_isSpelt_L0
    intro X hX
    have key : ∀ (d j : Nat), j + d = (wsp (sIx i)).length → (∀ x : Nat, x < j → B 37 ((p + x : Nat) : Int) = (wsp (sIx i)).getD x 0) → X j := by
      intro d
      induction d with
      | zero =>
        intro j hd h
        rw [Nat.add_zero] at hd
        apply hX
        unfold w_Reader_isSpelt_B0
        refine ⟨sIx i, hk, rfl, ?_⟩
        rw [t1]
        exact ⟨by omega, by omega, fun _ => k1 ⟨fun y => z (by rw [y]; rfl), by omega, fun x hx => h x (by omega)⟩, fun y => absurd y (by omega)⟩
      | succ d ih =>
        intro j hd h
        apply hX
        unfold w_Reader_isSpelt_B0
        refine ⟨sIx i, hk, rfl, ?_⟩
        rw [t1]
        refine ⟨by omega, by omega, fun y => absurd y (by omega), fun _ => ⟨by omega, ?_⟩⟩
        (intro v ev _ _; have ev : v = N 52 ((p : Int) + j) := ev)
        rw [ht, (show (p : Int) + j = ((p + j : Nat) : Int) by omega)] at ev
        refine ⟨sIx i, hk, rfl, by omega, by rw [t1]; omega, ?_⟩
        rw [Int.toNat_natCast, t3 j (by omega)]
        have hr := t3 j (by omega)
        have hr2 := Int32.toInt_lt ((strByt.getD (sIx i) []).getD j 0)
        have hr3 := Int32.le_toInt ((strByt.getD (sIx i) []).getD j 0)
        refine ⟨by omega, fun y => ih (j + 1) (by omega) (fun x hx => ?_), fun y => k0 (fun w => y (by rw [ev]; exact w.2.2 j (by omega)))⟩
        by_cases w : x = j
        · rw [w, ← ev]; exact y
        · exact h x (by omega)
    exact key _ 0 (Nat.zero_add _) (fun x hx => absurd hx (by omega))
theorem takeWord_ok {Q : Int → Mem → Prop} (hR : RB B) (H : RS N M B p c f fa D) (hp : (p : Int) ≤ B 38 0) (kk : ∀ N', RS N' M B (we B p) c f fa D → Q (wc B p (we B p - p)) N') : w_Reader_takeWord N Q := by
  have ht := b_tlen hR 0
  unfold w_Reader_takeWord
  (intro s es _ _; have es : s = N 11 5 := es)
  rw [H.1] at es
  subst es
  -- the codes
  have codes : ∀ N', RS N' M B (we B p) c f fa D → w_Reader_takeWord_L1 Q p N' 0 := by
    intro N' H'
    have hle := we_le (B := B) p
    have hL : (we B p : Int) ≤ B 38 0 := we_L hp
    have kk := kk N' H'
    unfold wc at kk
    unfold w_Reader_takeWord_L1
    intro X hX
    have key : ∀ (d i : Nat), i + d = 26 → Q (wcl B p (we B p - p) d i) N' → X i := by
      intro d
      induction d with
      | zero =>
        intro i hd kk
        apply hX
        unfold w_Reader_takeWord_B1
        exact ⟨by omega, fun _ => kk, fun h => absurd (show (25 : Int) < i by omega) h⟩
      | succ d ih =>
        intro i hd kk
        apply hX
        unfold w_Reader_takeWord_B1
        refine ⟨by omega, fun h => absurd h (by omega), fun _ => ?_⟩
        (intro a ea _ _; have ea : a = N' 11 5 := ea)
        rw [H'.1] at ea
        subst ea
        unfold wcl at kk
        refine spelling_ok (by omega) (isSpelt_ok H'.2.2.2.2.2.2.1 (by omega) hle (by omega) (fun h => ?_) (fun h => ?_))
        · (first | refine t1n ?_ | refine t1e ?_)
          rw [if_pos h] at kk
          exact kk
        · (first | refine t0n ?_ | refine t0e ?_)
          rw [if_neg h] at kk
          exact ih (i + 1) (by omega) kk
    exact key 26 0 (by decide) kk
  unfold w_Reader_takeWord_L0
  intro X hX
  have key : ∀ (d q : Nat) (N : Mem), q + d = 200 → RS N M B q c f fa D → (q : Int) ≤ B 38 0 → we B q = we B p → X N := by
    intro d
    induction d with
    | zero =>
      intro q N hd H hq e
      apply hX
      unfold w_Reader_takeWord_B0
      (intro a ea _ _; have ea : a = N 11 5 := ea)
      rw [H.1] at ea
      (intro b eb _ _; have eb : b = N 11 1 := eb)
      rw [H.2.2.2.2.2.1] at eb
      refine ⟨fun _ => codes N ?_, fun h => absurd h (by omega)⟩
      rw [← e, (show we B q = q from sc_stop (fun z => by omega))]
      exact H
    | succ d ih =>
      intro q N hd H hq e
      have stop : ¬ ((q : Int) < B 38 0 ∧ 97 ≤ B 37 q ∧ B 37 q ≤ 122) → w_Reader_takeWord_L1 Q p N 0 := fun h => by
        refine codes N ?_
        rw [← e, (show we B q = q from sc_stop h)]
        exact H
      apply hX
      unfold w_Reader_takeWord_B0
      (intro a ea _ _; have ea : a = N 11 5 := ea)
      rw [H.1] at ea
      (intro b eb _ _; have eb : b = N 11 1 := eb)
      rw [H.2.2.2.2.2.1] at eb
      refine ⟨fun h => stop (fun z => by omega), fun h => ?_⟩
      (intro x ex _ _; have ex : x = N 11 5 := ex)
      rw [H.1] at ex
      refine ⟨by omega, ?_⟩
      (intro y ey _ _; have ey : y = N 52 x := ey)
      rw [H.2.2.2.2.2.2.1, ex] at ey
      refine ⟨fun h2 => stop (fun z => by omega), fun h2 => ?_⟩
      (intro x2 ex2 _ _; have ex2 : x2 = N 11 5 := ex2)
      rw [H.1] at ex2
      refine ⟨by omega, ?_⟩
      (intro y2 ey2 _ _; have ey2 : y2 = N 52 x2 := ey2)
      rw [H.2.2.2.2.2.2.1, ex2] at ey2
      refine ⟨fun h3 => stop (fun z => by omega), fun h3 => ?_⟩
      (intro x3 ex3 _ _; have ex3 : x3 = N 11 5 := ex3)
      rw [H.1] at ex3
      refine ⟨by omega, ?_⟩
      (intro N1 eN1; subst eN1)
      exact ih (q + 1) _ (by omega) (H.at_ (by omega)) (by omega) ((sc_go hR (by omega)).symm.trans e)
  exact key (200 - p) p N (by omega) H hp rfl
theorem nv_rng {s : Nat} : ∀ n : Nat, (∀ i : Nat, i < n → 48 ≤ B 37 ((s + i : Nat) : Int) ∧ B 37 ((s + i : Nat) : Int) ≤ 57) → 0 ≤ nv B s n ∧ nv B s n + 1 ≤ 10 ^ n
  | 0, _ => by unfold nv; decide
  | n + 1, h => by
    have h1 := nv_rng n (fun i hi => h i (by omega))
    have h2 := h n (by omega)
    rw [Int.pow_succ]
    unfold nv
    omega
theorem pow10 : ∀ n : Nat, n ≤ 4 → (10 : Int) ^ n ≤ 10000 := by decide
theorem pow10' : ∀ n : Nat, n ≤ 3 → (10 : Int) ^ n ≤ 1000 := by decide
theorem takeNumber_ok {lo hi : Int} {Q : Int → Mem → Prop} (hR : RB B) (H : RS N M B p c 0 fa D) (hp : (p : Int) ≤ B 38 0) (hlo : 0 ≤ lo ∧ lo ≤ 999) (hhi : 0 ≤ hi ∧ hi ≤ 999)
    (k0 : numF B p lo hi = 0 → ∀ N', RS N' M B (numE B p) c 0 fa D → Q (numV B p) N') (k1 : numF B p lo hi ≠ 0 → ∀ N', RS N' M B (numE B p) c (numF B p lo hi) (sk B p : Nat) D → Q lo N') : w_Reader_takeNumber N lo hi Q := by
  have ht := b_tlen hR 0
  unfold w_Reader_takeNumber
  refine skip_ok hR H hp (fun N0 H0 => ?_)
  have hs : (sk B p : Int) ≤ B 38 0 := sk_L hp
  (intro a ea _ _; have ea : a = N0 11 5 := ea)
  rw [H0.1] at ea
  subst ea
  have eF : numF B p lo hi = if de B (sk B p) = sk B p then 1 else if 3 < de B (sk B p) - sk B p ∨ numV B p < lo ∨ hi < numV B p then 2 else 0 := rfl
  have eV : numV B p = nv B (sk B p) (de B (sk B p) - sk B p) := rfl
  have hE : numE B p = de B (sk B p) := rfl
  rw [hE] at k0 k1
  generalize numF B p lo hi = F at k0 k1 eF
  generalize numV B p = V at k0 eF eV
  generalize sk B p = s at H0 hs k0 k1 eF eV
  have hle := de_le (B := B) s
  have hL : (de B s : Int) ≤ B 38 0 := de_L hs
  have hin : ∀ i : Nat, i < de B s - s → 48 ≤ B 37 ((s + i : Nat) : Int) ∧ B 37 ((s + i : Nat) : Int) ≤ 57 := fun i hi => sc_in (B := B) (lo := 48) (hi := 57) (p := s) (by omega) (by show s + i < de B s; omega)
  -- behind the digits
  have J3 : ∀ x N', (F = 0 → RS N' M B (de B s) c 0 fa D ∧ x = V) → (F ≠ 0 → RS N' M B (de B s) c F s D) → w_Reader_takeNumber_j3 Q lo x N' := by
    intro x N' h0 h1
    unfold w_Reader_takeNumber_j3
    (intro y ey _ _; have ey : y = N' 11 2 := ey)
    by_cases z : F = 0
    · obtain ⟨r, ex⟩ := h0 z
      rw [r.2.2.1] at ey
      rw [ex]
      exact ⟨fun w => absurd ey w, fun _ => k0 z N' r⟩
    · have r := h1 z
      rw [r.2.2.1] at ey
      exact ⟨fun _ => k1 z N' r, fun w => absurd (ey.symm.trans w) z⟩
  have J1 : ∀ N', RS N' M B (de B s) c 0 fa D → w_Reader_takeNumber_j1 Q lo hi s (nv B s (min (de B s - s) 4)) N' := by
    intro N' H'
    have J2 : F = 2 → w_Reader_takeNumber_j2 Q lo s (nv B s (min (de B s - s) 4)) N' := by
      intro eF2
      unfold w_Reader_takeNumber_j2
      refine fail_ok H' (by decide) (by omega) (fun _ N2 H2 => J3 _ N2 (fun z => absurd z (by omega)) (fun _ => by rw [eF2]; exact H2)) (fun z => absurd rfl z)
    unfold w_Reader_takeNumber_j1
    (intro x ex _ _; have ex : x = N' 11 5 := ex)
    rw [H'.1] at ex
    refine ⟨by omega, fun h => ?_, fun h => ?_⟩
    · rw [if_neg (by omega)] at eF
      (intro y ey _ _; have ey : y = N' 11 5 := ey)
      rw [H'.1] at ey
      refine ⟨by omega, fun h3 => J2 ?_, fun h3 => ?_⟩
      · rw [if_pos (Or.inl (by omega))] at eF
        exact eF
      · have em : min (de B s - s) 4 = de B s - s := by omega
        rw [em, ← eV] at J2 ⊢
        have hv := nv_rng (B := B) (s := s) (de B s - s) hin
        have hv2 := pow10' (de B s - s) (by omega)
        rw [← eV] at hv
        refine S_beyond_ok (by omega) (by omega) (by omega) (fun hb => ?_) (fun b0 b1 => ?_)
        · (first | refine t1n ?_ | refine t1e ?_)
          refine J2 ?_
          rw [if_pos (Or.inr hb)] at eF
          exact eF
        · (first | refine t0n ?_ | refine t0e ?_)
          rw [if_neg (by omega)] at eF
          exact J3 V N' (fun _ => ⟨H', rfl⟩) (fun z => absurd eF z)
    · rw [if_pos (by omega)] at eF
      refine fail_ok H' (by decide) (by omega) (fun _ N2 H2 => J3 _ N2 (fun z => absurd z (by omega)) (fun _ => by rw [eF]; exact H2)) (fun z => absurd rfl z)
  unfold w_Reader_takeNumber_L0
  intro X hX
  have key : ∀ (d j : Nat) (N : Mem), s + j + d = 200 → RS N M B (s + j) c 0 fa D → ((s + j : Nat) : Int) ≤ B 38 0 → de B (s + j) = de B s → X (nv B s (min j 4)) N := by
    intro d
    induction d with
    | zero =>
      intro j N hd H hq e
      apply hX
      unfold w_Reader_takeNumber_B0
      (intro a ea _ _; have ea : a = N 11 5 := ea)
      rw [H.1] at ea
      (intro b eb _ _; have eb : b = N 11 1 := eb)
      rw [H.2.2.2.2.2.1] at eb
      have e2 : de B s = s + j := e.symm.trans (show de B (s + j) = s + j from sc_stop (fun z => by omega))
      rw [← e2] at H
      refine ⟨fun _ => ?_, fun h => absurd h (by omega)⟩
      rw [(show j = de B s - s by omega)]
      exact J1 N H
    | succ d ih =>
      intro j N hd H hq e
      have stop : ¬ (((s + j : Nat) : Int) < B 38 0 ∧ 48 ≤ B 37 ((s + j : Nat) : Int) ∧ B 37 ((s + j : Nat) : Int) ≤ 57) → w_Reader_takeNumber_j1 Q lo hi s (nv B s (min j 4)) N := fun h => by
        have e2 : de B s = s + j := e.symm.trans (show de B (s + j) = s + j from sc_stop h)
        rw [← e2] at H
        rw [(show j = de B s - s by omega)]
        exact J1 N H
      apply hX
      unfold w_Reader_takeNumber_B0
      (intro a ea _ _; have ea : a = N 11 5 := ea)
      rw [H.1] at ea
      (intro b eb _ _; have eb : b = N 11 1 := eb)
      rw [H.2.2.2.2.2.1] at eb
      refine ⟨fun h => stop (fun z => by omega), fun h => ?_⟩
      (intro x ex _ _; have ex : x = N 11 5 := ex)
      rw [H.1] at ex
      refine ⟨by omega, ?_⟩
      (intro y ey _ _; have ey : y = N 52 x := ey)
      rw [H.2.2.2.2.2.2.1, ex] at ey
      refine ⟨fun h2 => stop (fun z => by omega), fun h2 => ?_⟩
      (intro x2 ex2 _ _; have ex2 : x2 = N 11 5 := ex2)
      rw [H.1] at ex2
      refine ⟨by omega, ?_⟩
      (intro y2 ey2 _ _; have ey2 : y2 = N 52 x2 := ey2)
      rw [H.2.2.2.2.2.2.1, ex2] at ey2
      refine ⟨fun h3 => stop (fun z => by omega), fun h3 => ?_⟩
      have J0 : ∀ v, v = nv B s (min (j + 1) 4) → w_Reader_takeNumber_j0 Q X lo hi s v N := by
        intro v ev
        unfold w_Reader_takeNumber_j0
        (intro x4 ex4 _ _; have ex4 : x4 = N 11 5 := ex4)
        rw [H.1] at ex4
        refine ⟨by omega, ?_⟩
        (intro N1 eN1; subst eN1)
        rw [ev]
        exact ih (j + 1) _ (by omega) (H.at_ (by omega)) (by omega) (show de B (s + (j + 1)) = de B s from (show de B (s + j) = de B (s + j + 1) from sc_go hR (by omega)).symm.trans e)
      (intro x3 ex3 _ _; have ex3 : x3 = N 11 5 := ex3)
      rw [H.1] at ex3
      refine ⟨by omega, fun h4 => J0 _ ?_, fun h4 => ?_⟩
      · rw [(show min j 4 = 4 by omega), (show min (j + 1) 4 = 4 by omega)]
      · (intro x5 ex5 _ _; have ex5 : x5 = N 11 5 := ex5)
        rw [H.1] at ex5
        refine ⟨by omega, ?_⟩
        (intro y5 ey5 _ _; have ey5 : y5 = N 52 x5 := ey5)
        rw [H.2.2.2.2.2.2.1, ex5] at ey5
        refine J0 _ ?_
        rw [(show min j 4 = j by omega), (show min (j + 1) 4 = j + 1 by omega)]
        have : nv B s (j + 1) = 10 * nv B s j + B 37 ((s + j : Nat) : Int) - 48 := rfl
        omega
  exact key (200 - s) 0 N0 (by omega) H0 hs rfl
end CREAD
