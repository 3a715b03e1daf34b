/-! ===== least ===== -/
abbrev S5 : Type := Int × Int × Int × Int × Int
noncomputable def bs1 (B : Mem) (q a b : Int) (k : Nat) (s : S5) : S5 := @ite S5 (slp B a b (mid B a k) ∧ (s.1 = -1 ∨ sH B q a b (mid B a k) * s.2.2.2.2 < s.2.2.2.1 * sD B a b (mid B a k))) (Classical.propDecidable _) (a, b, (k : Int), sH B q a b (mid B a k), sD B a b (mid B a k)) s
noncomputable def bsK (B : Mem) (q a b : Int) (s : S5) : Nat → S5
  | 0 => s
  | n + 1 => bs1 B q a b n (bsK B q a b s n)
noncomputable def bsB (B : Mem) (q a : Int) (s : S5) : Nat → S5
  | 0 => s
  | n + 1 => if a = (n : Int) then bsB B q a s n else bsK B q a n (bsB B q a s n) (nly B a)
noncomputable def bsA (B : Mem) (q : Int) : Nat → S5
  | 0 => (-1, -1, -1, 0, 0)
  | n + 1 => bsB B q n (bsA B q n) 6
def okS5 (s : S5) : Prop := (-1 ≤ s.1 ∧ s.1 ≤ 5) ∧ (s.1 ≠ -1 → (0 ≤ s.2.1 ∧ s.2.1 ≤ 5) ∧ (0 ≤ s.2.2.1 ∧ s.2.2.1 ≤ 5) ∧ (0 ≤ s.2.2.2.1 ∧ s.2.2.2.1 ≤ 60000000) ∧ (0 < s.2.2.2.2 ∧ s.2.2.2.2 ≤ 400000))
section LEAST
variable {M N B : Mem} {q : Int}
theorem sHD_rng (hR : RB B) (hW : WF B) {a b : Int} (a0 : 0 ≤ a) (a6 : a < 6) (b0 : 0 ≤ b) (b6 : b < 6) (z : Int) : (0 ≤ sH B q a b z ∧ sH B q a b z ≤ 60000000) ∧ (-400000 ≤ sD B a b z ∧ sD B a b z ≤ 400000) := by
  have h1 := hs_rng hR hW q z (min a b) (max a b - min a b + 1).toNat
  have h2 := wab_rng hR a z (nly B a)
  have h3 := wab_rng hR b z (nly B b)
  have h4 := nly_i hR a
  have h5 := nly_i hR b
  unfold sH sD
  omega
theorem bs1_ok (hR : RB B) (hW : WF B) {a b : Int} (a0 : 0 ≤ a) (a6 : a < 6) (b0 : 0 ≤ b) (b6 : b < 6) {k : Nat} (hk : k < 6) {s : S5} (h : okS5 s) : okS5 (bs1 B q a b k s) := by
  have r := sHD_rng (q := q) hR hW a0 a6 b0 b6 (mid B a k)
  unfold bs1
  by_cases e : slp B a b (mid B a k) ∧ (s.1 = -1 ∨ sH B q a b (mid B a k) * s.2.2.2.2 < s.2.2.2.1 * sD B a b (mid B a k))
  · rw [if_pos e]
    have := e.1.2
    refine ⟨⟨by show -1 ≤ a; omega, by show a ≤ 5; omega⟩, fun _ => ⟨⟨b0, by show b ≤ 5; omega⟩, ⟨by show (0 : Int) ≤ (k : Int); omega, by show (k : Int) ≤ 5; omega⟩, r.1, e.1.2, r.2.2⟩⟩
  · rw [if_neg e]; exact h
theorem bsK_ok (hR : RB B) (hW : WF B) {a b : Int} (a0 : 0 ≤ a) (a6 : a < 6) (b0 : 0 ≤ b) (b6 : b < 6) {s : S5} (h : okS5 s) : ∀ n : Nat, n ≤ 6 → okS5 (bsK B q a b s n)
  | 0, _ => h
  | n + 1, hn => bs1_ok hR hW a0 a6 b0 b6 (by omega) (bsK_ok hR hW a0 a6 b0 b6 h n (by omega))
theorem bsB_ok (hR : RB B) (hW : WF B) {a : Int} (a0 : 0 ≤ a) (a6 : a < 6) {s : S5} (h : okS5 s) : ∀ n : Nat, n ≤ 6 → okS5 (bsB B q a s n)
  | 0, _ => h
  | n + 1, hn => by
    have ih := bsB_ok hR hW a0 a6 h n (by omega)
    unfold bsB
    split
    · exact ih
    · exact bsK_ok hR hW a0 a6 (by omega) (by omega) ih _ (nly_i hR a).2
theorem bsA_ok (hR : RB B) (hW : WF B) : ∀ n : Nat, n ≤ 6 → okS5 (bsA B q n)
  | 0, _ => ⟨by show -1 ≤ (-1 : Int) ∧ (-1 : Int) ≤ 5; decide, fun h => absurd rfl h⟩
  | n + 1, hn => bsB_ok hR hW (by omega) (by omega) (bsA_ok hR hW n (by omega)) 6 (by decide)
/-- how the class keeps the least -/
def stL (M : Mem) (s : S5) : Prop := M 10 3 = s.1 ∧ (s.1 ≠ -1 → M 10 4 = s.2.1 ∧ M 10 5 = s.2.2.1 ∧ M 10 6 = s.2.2.2.1 ∧ M 10 7 = s.2.2.2.2)
theorem stL.fr {s : S5} (h : stL M s) (f : FrS M N) : stL N s := by
  unfold stL
  rw [f.2 _ (by decide) (by decide), f.2 _ (by decide) (by decide), f.2 _ (by decide) (by decide), f.2 _ (by decide) (by decide), f.2 _ (by decide) (by decide)]
  exact h
theorem between_ok {a b : Int} {s : S5} {Q : Mem → Prop} (I : Inv M B) (q0 : 0 ≤ q) (q6 : q < 6) (a0 : 0 ≤ a) (a6 : a < 6) (b0 : 0 ≤ b) (b6 : b < 6) (G : GR M B q 0 5) (hs : okS5 s) (H : stL M s)
    (kk : ∀ N, Inv N B → GR N B q 0 5 → stL N (bsK B q a b s (nly B a)) → Q N) : w_Slips_findLeastBetween M a b Q := by
  have hR := I.2.2.1
  have hW := I.2.2.2.1
  have hn := nly_i hR a
  unfold w_Slips_findLeastBetween w_Slips_findLeastBetween_L0
  intro X hX
  have key : ∀ (d k : Nat) (N : Mem), k + d = nly B a → Inv N B → GR N B q 0 5 → stL N (bsK B q a b s k) → X k N := by
    intro d
    induction d with
    | zero =>
      intro k N hd IN G H
      rw [Nat.add_zero] at hd
      apply hX
      unfold w_Slips_findLeastBetween_B0
      refine ⟨⟨a0, a6⟩, ?_⟩
      (intro x ex _ _; have ex : x = N 21 a := ex)
      rw [c_layers IN.1] at ex
      exact ⟨by omega, fun _ => kk N IN G (by rw [← hd]; exact H), fun h => absurd h (by omega)⟩
    | succ d ih =>
      intro k N hd IN G H
      have hmd := mid_rng hR a (k := k) (by omega)
      have ok := bsK_ok (q := q) hR hW a0 a6 b0 b6 hs k (by omega)
      have rg := sHD_rng (q := q) hR hW a0 a6 b0 b6 (mid B a k)
      have est : bsK B q a b s (k + 1) = bs1 B q a b k (bsK B q a b s k) := rfl
      generalize bsK B q a b s k = t at H ok est
      have agS : ∀ O, FrS N O → Inv O B ∧ GR O B q 0 5 := fun O f => ⟨IN.ag (slAg (fun h e _ => f.1 h e)), fun c x y k hk => by rw [f.1 _ (by decide)]; exact G c x y k hk⟩
      have stay : ∀ O, FrS N O → ¬ (slp B a b (mid B a k) ∧ (t.1 = -1 ∨ sH B q a b (mid B a k) * t.2.2.2.2 < t.2.2.2.1 * sD B a b (mid B a k))) → X ((k : Int) + 1) O := by
        intro O f e
        refine ih (k + 1) O (by omega) (agS O f).1 (agS O f).2 ?_
        rw [est]
        unfold bs1
        rw [if_neg e]
        exact H.fr f
      apply hX
      unfold w_Slips_findLeastBetween_B0
      refine ⟨⟨a0, a6⟩, ?_⟩
      (intro x ex _ _; have ex : x = N 21 a := ex)
      rw [c_layers IN.1] at ex
      refine ⟨by omega, fun h => absurd h (by omega), fun _ => ?_⟩
      refine middleOf_ok IN.1 a0 a6 (by omega) ?_
      refine weigh_ok (q := q) IN a0 a6 b0 b6 (by omega) (fun c x y k hk => G c (by omega) (by omega) k hk) (fun sl O o1 o2 o3 => ?_) (fun sl O o3 => ?_)
      · (first | refine t1n ?_ | refine t1e ?_)
        have HO := H.fr o3
        have IO' := (agS O o3).1
        have take : slp B a b (mid B a k) ∧ (t.1 = -1 ∨ sH B q a b (mid B a k) * t.2.2.2.2 < t.2.2.2.1 * sD B a b (mid B a k)) → w_Slips_findLeastBetween_j0 Q X a b k O := by
          intro e
          unfold w_Slips_findLeastBetween_j0
          refine ⟨by omega, ?_⟩
          (intro O1 eO1; subst eO1)
          refine ⟨by omega, ?_⟩
          (intro O2 eO2; subst eO2)
          refine ⟨by omega, ?_⟩
          (intro O3 eO3; subst eO3)
          intro u eu _ _
          rw [ms_n (by decide), ms_n (by decide), ms_n (by decide), o1] at eu
          (intro O4 eO4; subst eO4)
          intro v ev _ _
          rw [ms_n (by decide), ms_n (by decide), ms_n (by decide), ms_n (by decide), o2] at ev
          (intro O5 eO5; subst eO5)
          have f : ∀ h, h ≠ 10 → h ≠ 50 → (mset (mset (mset (mset (mset O 10 3 a) 10 4 b) 10 5 k) 10 6 u) 10 7 v) h = O h := fun h e _ => by rw [mset_ne e, mset_ne e, mset_ne e, mset_ne e, mset_ne e]
          refine ih (k + 1) _ (by omega) (IO'.ag (slAg f)) (fun c x y k hk => by rw [mset_ne (by decide), mset_ne (by decide), mset_ne (by decide), mset_ne (by decide), mset_ne (by decide)]; exact (agS O o3).2 c x y k hk) ?_
          rw [est]
          unfold bs1
          rw [if_pos e]
          refine ⟨?_, fun _ => ⟨?_, ?_, ?_, ?_⟩⟩
          · rw [ms_n (by decide), ms_n (by decide), ms_n (by decide), ms_n (by decide), ms_s]
          · rw [ms_n (by decide), ms_n (by decide), ms_n (by decide), ms_s]
          · rw [ms_n (by decide), ms_n (by decide), ms_s]
          · rw [ms_n (by decide), ms_s]; exact eu
          · rw [ms_s]; exact ev
        (intro y ey _ _; have ey : y = O 10 3 := ey)
        rw [HO.1] at ey
        refine ⟨fun h => take ⟨sl, Or.inl (by omega)⟩, fun h => ?_⟩
        have ht : t.1 ≠ -1 := by omega
        obtain ⟨g1, g2, g3, g4⟩ := HO.2 ht
        obtain ⟨r1, r2, r3, r4⟩ := ok.2 ht
        (intro u eu _ _; have eu : u = O 10 1 := eu)
        rw [o1] at eu
        (intro ld eld _ _; have eld : ld = O 10 7 := eld)
        rw [g4] at eld
        (intro lh elh _ _; have elh : lh = O 10 6 := elh)
        rw [g3] at elh
        (intro v ev _ _; have ev : v = O 10 2 := ev)
        rw [o2] at ev
        rw [eu, eld, elh, ev]
        have sl2 := sl.2
        have m1 := mul_rng (a := sH B q a b (mid B a k)) (b := t.2.2.2.2) (A := 60000000) (C := 400000) rg.1 (by omega)
        have m2 := mul_rng (a := t.2.2.2.1) (b := sD B a b (mid B a k)) (A := 60000000) (C := 400000) r3 ⟨by show 0 ≤ wab B a (mid B a k) (nly B a) - wab B b (mid B a k) (nly B b); omega, rg.2.2⟩
        refine ⟨by omega, by omega, fun y => take ⟨sl, Or.inr y⟩, fun y => stay O o3 (fun z => z.2.elim ht y)⟩
      · (first | refine t0n ?_ | refine t0e ?_)
        exact stay O o3 (fun z => sl z.1)
  exact key (nly B a) 0 M (by omega) I G H
theorem findLeast_ok {Q : Mem → Prop} (I : Inv M B) (q0 : 0 ≤ q) (q6 : q < 6) (G : GR M B q 0 5) (kk : ∀ N, Inv N B → stL N (bsA B q 6) → Q N) : w_Slips_findLeast M Q := by
  have hR := I.2.2.1
  have hW := I.2.2.2.1
  unfold w_Slips_findLeast
  (intro M0 eM0; subst eM0)
  unfold w_Slips_findLeast_L0
  intro X hX
  have key : ∀ (d a : Nat) (N : Mem), a + d = 6 → Inv N B → GR N B q 0 5 → stL N (bsA B q a) → X a N := by
    intro d
    induction d with
    | zero =>
      intro a N hd IN G H
      rw [Nat.add_zero] at hd
      subst hd
      apply hX
      unfold w_Slips_findLeast_B0
      exact ⟨by decide, fun _ => kk N IN H, fun h => absurd h (by decide)⟩
    | succ d ih =>
      intro a N hd IN G H
      have ok := bsA_ok (q := q) hR hW a (by omega)
      apply hX
      unfold w_Slips_findLeast_B0
      refine ⟨by omega, fun h => absurd h (by omega), fun _ => ?_⟩
      unfold w_Slips_findLeast_L1
      intro Y hY
      have key2 : ∀ (e b : Nat) (O : Mem), b + e = 6 → Inv O B → GR O B q 0 5 → stL O (bsB B q a (bsA B q a) b) → Y b O := by
        intro e
        induction e with
        | zero =>
          intro b O he o1 o2 o3
          rw [Nat.add_zero] at he
          subst he
          apply hY
          unfold w_Slips_findLeast_B1
          exact ⟨by decide, fun _ => ih (a + 1) O (by omega) o1 o2 o3, fun h => absurd h (by decide)⟩
        | succ e ih2 =>
          intro b O he o1 o2 o3
          have ok2 := bsB_ok (q := q) (a := a) hR hW (by omega) (by omega) ok b (by omega)
          have est : bsB B q a (bsA B q a) (b + 1) = if (a : Int) = (b : Int) then bsB B q a (bsA B q a) b else bsK B q a b (bsB B q a (bsA B q a) b) (nly B a) := rfl
          apply hY
          unfold w_Slips_findLeast_B1
          refine ⟨by omega, fun h => absurd h (by omega), fun _ => ⟨by omega, by omega, fun h => ?_, fun h => ?_⟩⟩
          · rw [if_pos h] at est
            exact ih2 (b + 1) O (by omega) o1 o2 (by rw [est]; exact o3)
          · rw [if_neg h] at est
            refine between_ok o1 q0 q6 (by omega) (by omega) (by omega) (by omega) o2 ok2 o3 (fun P p1 p2 p3 => ?_)
            exact ih2 (b + 1) P (by omega) p1 p2 (by rw [est]; exact p3)
      exact key2 6 0 N (by decide) IN G H
  have f : ∀ h, h ≠ 10 → h ≠ 50 → (mset M 10 3 (-1)) h = M h := fun h e _ => mset_ne e
  exact key 6 0 _ (by decide) (I.ag (slAg f)) (fun c x y k hk => by rw [mset_ne (by decide)]; exact G c x y k hk) ⟨ms_s, fun h => absurd rfl h⟩
theorem m_least_L0_ok {w : Int} {Q : Int → Mem → Prop} (I : Inv M B) (q0 : 0 ≤ q) (q6 : q < 6)
    (kk : ∀ N, Inv N B → w_m_least_B0 Q q w (fun _ _ _ _ _ _ _ => True) (bsA B q 6).1 (bsA B q 6).2.1 (bsA B q 6).2.2.1 (bsA B q 6).2.2.2.1 (bsA B q 6).2.2.2.2 6 N) : w_m_least_L0 Q q w (-1) (-1) (-1) 0 0 0 M := by
  have hR := I.2.2.1
  have hW := I.2.2.2.1
  unfold w_m_least_L0
  intro X hX
  have key : ∀ (d a : Nat) (N : Mem), a + d = 6 → Inv N B → X (bsA B q a).1 (bsA B q a).2.1 (bsA B q a).2.2.1 (bsA B q a).2.2.2.1 (bsA B q a).2.2.2.2 a N := by
    intro d
    induction d with
    | zero =>
      intro a N hd IN
      rw [Nat.add_zero] at hd
      subst hd
      apply hX
      have := kk N IN
      unfold w_m_least_B0 at this ⊢
      exact ⟨this.1, this.2.1, fun h => absurd (by decide) h⟩
    | succ d ih =>
      intro a N hd IN
      have ok := bsA_ok (q := q) hR hW a (by omega)
      have hn := nly_i hR a
      apply hX
      unfold w_m_least_B0
      refine ⟨by omega, fun h => absurd h (by omega), fun _ => ?_⟩
      unfold w_m_least_L1
      intro Y hY
      have key2 : ∀ (e b : Nat) (O : Mem), b + e = 6 → Inv O B → Y (bsB B q a (bsA B q a) b).1 (bsB B q a (bsA B q a) b).2.1 (bsB B q a (bsA B q a) b).2.2.1 (bsB B q a (bsA B q a) b).2.2.2.1 (bsB B q a (bsA B q a) b).2.2.2.2 b O := by
        intro e
        induction e with
        | zero =>
          intro b O he o1
          rw [Nat.add_zero] at he
          subst he
          apply hY
          unfold w_m_least_B1
          exact ⟨by decide, fun _ => ih (a + 1) O (by omega) o1, fun h => absurd (by decide) h⟩
        | succ e ih2 =>
          intro b O he o1
          have ok2 := bsB_ok (q := q) (a := a) hR hW (by omega) (by omega) ok b (by omega)
          have est : bsB B q a (bsA B q a) (b + 1) = if (a : Int) = (b : Int) then bsB B q a (bsA B q a) b else bsK B q a b (bsB B q a (bsA B q a) b) (nly B a) := rfl
          generalize bsB B q a (bsA B q a) b = s at ok2 est
          apply hY
          unfold w_m_least_B1
          refine ⟨by omega, fun h => absurd h (by omega), fun _ => ?_⟩
          unfold w_m_least_L2
          intro Z hZ
          have nxt : ∀ P, Inv P B → ((a : Int) = b → s = bsB B q a (bsA B q a) (b + 1)) → ∀ t, t = bsB B q a (bsA B q a) (b + 1) → Y t.1 t.2.1 t.2.2.1 t.2.2.2.1 t.2.2.2.2 ((b : Int) + 1) P := fun P p1 _ t et => by rw [et]; exact ih2 (b + 1) P (by omega) p1
          by_cases eab : (a : Int) = b
          · rw [if_pos eab] at est
            apply hZ
            unfold w_m_least_B2
            refine ⟨by omega, ?_⟩
            (intro x ex _ _; have ex : x = O 55 a := ex)
            exact ⟨by omega, fun _ => nxt O o1 (fun _ => est.symm) s est.symm, fun _ => ⟨by omega, by omega, fun _ => nxt O o1 (fun _ => est.symm) s est.symm, fun z => absurd eab z⟩⟩
          · rw [if_neg eab] at est
            have key3 : ∀ (f k : Nat) (P : Mem), k + f = nly B a → Inv P B → Z (bsK B q a b s k).1 (bsK B q a b s k).2.1 (bsK B q a b s k).2.2.1 (bsK B q a b s k).2.2.2.1 (bsK B q a b s k).2.2.2.2 k P := by
              intro f
              induction f with
              | zero =>
                intro k P hf p1
                rw [Nat.add_zero] at hf
                apply hZ
                unfold w_m_least_B2
                refine ⟨by omega, ?_⟩
                (intro x ex _ _; have ex : x = P 55 a := ex)
                rw [m_layers p1.2.1] at ex
                exact ⟨by omega, fun _ => nxt P p1 (fun z => absurd z eab) _ (by rw [est, hf]), fun h => absurd h (by omega)⟩
              | succ f ih3 =>
                intro k P hf p1
                have hmd := mid_rng hR a (k := k) (by omega)
                have ok3 := bsK_ok (q := q) (a := a) (b := b) hR hW (by omega) (by omega) (by omega) (by omega) ok2 k (by omega)
                have rg := sHD_rng (q := q) (a := a) (b := b) hR hW (by omega) (by omega) (by omega) (by omega) (mid B a k)
                have es3 : bsK B q a b s (k + 1) = bs1 B q a b k (bsK B q a b s k) := rfl
                have ih4 := fun P p1 => ih3 (k + 1) P (by omega) p1
                rw [es3] at ih4
                generalize bsK B q a b s k = t at ok3 ih4
                have stay : ∀ P, Inv P B → ¬ (slp B a b (mid B a k) ∧ (t.1 = -1 ∨ sH B q a b (mid B a k) * t.2.2.2.2 < t.2.2.2.1 * sD B a b (mid B a k))) → Z t.1 t.2.1 t.2.2.1 t.2.2.2.1 t.2.2.2.2 ((k : Int) + 1) P := by
                  intro P p1 e
                  have := ih4 P p1
                  unfold bs1 at this
                  rw [if_neg e] at this
                  exact this
                apply hZ
                unfold w_m_least_B2
                refine ⟨by omega, ?_⟩
                (intro x ex _ _; have ex : x = P 55 a := ex)
                rw [m_layers p1.2.1] at ex
                refine ⟨by omega, fun h => absurd h (by omega), fun _ => ⟨by omega, by omega, fun z => absurd z eab, fun _ => ?_⟩⟩
                refine m_middle_ok p1.2.1 (by omega) (by omega) (by omega) ?_
                refine m_findSlip_ok (q := q) p1 q0 q6 (by omega) (by omega) (by omega) (by omega) (by omega) (fun sl T t1 t2 t3 => ?_) (fun sl T t1 => ?_)
                · (first | refine t1n ?_ | refine t1e ?_)
                  have take : slp B a b (mid B a k) ∧ (t.1 = -1 ∨ sH B q a b (mid B a k) * t.2.2.2.2 < t.2.2.2.1 * sD B a b (mid B a k)) → w_m_least_j0 Q X Y Z q w a b k T := by
                    intro e
                    unfold w_m_least_j0
                    (intro u eu _ _; have eu : u = T 12 48 := eu)
                    rw [t2] at eu
                    (intro v ev _ _; have ev : v = T 12 49 := ev)
                    rw [t3] at ev
                    have := ih4 T t1
                    unfold bs1 at this
                    rw [if_pos e] at this
                    rw [eu, ev]
                    exact this
                  refine ⟨by have := ok3.1; omega, fun h => take ⟨sl, Or.inl (by have := ok3.1; omega)⟩, fun h => ?_⟩
                  have ht : t.1 ≠ -1 := by omega
                  obtain ⟨r1, r2, r3, r4⟩ := ok3.2 ht
                  (intro u eu _ _; have eu : u = T 12 48 := eu)
                  rw [t2] at eu
                  (intro v ev _ _; have ev : v = T 12 49 := ev)
                  rw [t3] at ev
                  rw [eu, ev]
                  have sl2 := sl.2
                  have m1 := mul_rng (a := sH B q a b (mid B a k)) (b := t.2.2.2.2) (A := 60000000) (C := 400000) rg.1 (by omega)
                  have m2 := mul_rng (a := t.2.2.2.1) (b := sD B a b (mid B a k)) (A := 60000000) (C := 400000) r3 ⟨by show 0 ≤ wab B a (mid B a k) (nly B a) - wab B b (mid B a k) (nly B b); omega, rg.2.2⟩
                  exact ⟨by omega, by omega, fun y => stay T t1 (fun z => z.2.elim ht (fun z => by omega)), fun y => take ⟨sl, Or.inr (by omega)⟩⟩
                · (first | refine t0n ?_ | refine t0e ?_)
                  exact stay T t1 (fun z => sl z.1)
            exact key3 (nly B a) 0 O (by omega) o1
      exact key2 6 0 N (by decide) IN
  exact key 6 0 M (by decide) I
end LEAST
theorem both_least {M B : Mem} {q w : Int} {Q : Int → Int → Mem → Prop} (I : Inv M B) (hq : R32 q) (hw : R32 w) (k : ∀ (r : Int) (N B' : Mem), Inv N B' → Q r r N) : w_S_least M q w (fun r M1 => w_m_least M1 q w (fun r2 M2 => Q r r2 M2)) := by
  obtain ⟨hC, hM, hR, hW, hS, hCC, hCM⟩ := id I
  have hsh := b_shakes hR 0
  unfold w_S_least
  refine hasShake_ok hC hq (fun e => ?_) (fun q0 q1 => ?_)
  · (first | refine t0n ?_ | refine t0e ?_)
    unfold w_m_least
    refine m_isShake_ok hM hq (fun _ => ?_) (fun x y => absurd ⟨x, y⟩ e)
    (first | refine t0n ?_ | refine t0e ?_)
    exact k _ _ _ I
  (first | refine t1n ?_ | refine t1e ?_)
  refine S_beyond_ok hw (by decide) (by decide) (fun e => ?_) (fun w0 w1 => ?_)
  · (first | refine t1n ?_ | refine t1e ?_)
    unfold w_m_least
    refine m_isShake_ok hM hq (fun e => absurd ⟨q0, q1⟩ e) (fun _ _ => ?_)
    (first | refine t1n ?_ | refine t1e ?_)
    refine ⟨hw, m_in_ok hw (by decide) (by decide) (fun _ => ?_) (fun a b => absurd e (by omega))⟩
    (first | refine t0n ?_ | refine t0e ?_)
    exact k _ _ _ I
  (first | refine t0n ?_ | refine t0e ?_)
  have ok := bsA_ok (q := q) hR hW 6 (by decide)
  have mod : ∀ (N : Mem) (r : Int), Inv N B → ((bsA B q 6).1 = -1 → r = -1) → ((bsA B q 6).1 ≠ -1 → r = if w = 0 then (bsA B q 6).1 else if w = 1 then (bsA B q 6).2.1 else if w = 2 then (bsA B q 6).2.2.1 else (if w = 3 then (bsA B q 6).2.2.2.1 else (bsA B q 6).2.2.2.2) / (Nat.gcd (bsA B q 6).2.2.2.1.toNat (bsA B q 6).2.2.2.2.toNat : Nat)) → w_m_least N q w (fun r2 M2 => Q r r2 M2) := by
    intro N r IN r0 r1
    unfold w_m_least
    refine m_isShake_ok IN.2.1 hq (fun e => absurd ⟨q0, q1⟩ e) (fun _ _ => ?_)
    (first | refine t1n ?_ | refine t1e ?_)
    refine ⟨hw, m_in_ok hw (by decide) (by decide) (fun e => absurd e (by omega)) (fun _ _ => ?_)⟩
    (first | refine t1n ?_ | refine t1e ?_)
    refine m_least_L0_ok IN q0 (by omega) (fun O o1 => ?_)
    unfold w_m_least_B0
    refine ⟨by decide, fun _ => ⟨by have := ok.1; omega, fun h => ?_, fun h => ?_⟩, fun h => absurd (by decide) h⟩
    · have ht : (bsA B q 6).1 ≠ -1 := by omega
      have r1 := r1 ht
      obtain ⟨b1, b2, b3, b4⟩ := ok.2 ht
      generalize bsA B q 6 = t at r0 r1 b1 b2 b3 b4 ht h ok ⊢
      obtain ⟨A, Bb, K, U, L⟩ := t
      simp only at r0 r1 b1 b2 b3 b4 ht h ok ⊢
      obtain ⟨x, rfl⟩ : ∃ n : Nat, U = n := ⟨U.toNat, by omega⟩
      obtain ⟨y, rfl⟩ : ∃ n : Nat, L = n := ⟨L.toNat, by omega⟩
      have g0 : 0 < Nat.gcd x y := Nat.gcd_pos_of_pos_right x (by omega)
      have g1 : Nat.gcd x y ≤ y := Nat.le_of_dvd (by omega) (Nat.gcd_dvd_right x y)
      have okA := ok.1
      simp only at okA
      refine m_gcd_ok y x (by omega) (by omega) ⟨hw, fun z0 => ⟨hw, fun z1 => ⟨hw, fun z2 => ⟨hw, fun z3 => ?_, fun z3 => ?_⟩, fun z2 => ?_⟩, fun z1 => ?_⟩, fun z0 => ?_⟩
      · rw [if_neg z0, if_neg z1, if_neg z2, if_neg z3] at r1
        refine ⟨by omega, ?_⟩
        rw [r1]
        exact k _ _ _ o1
      · rw [if_neg z0, if_neg z1, if_neg z2, if_pos z3] at r1
        refine ⟨by omega, ?_⟩
        rw [r1]
        exact k _ _ _ o1
      · rw [if_neg z0, if_neg z1, if_pos z2] at r1
        refine ⟨by omega, ?_⟩
        rw [r1]
        exact k _ _ _ o1
      · rw [if_neg z0, if_pos z1] at r1
        refine ⟨by omega, ?_⟩
        rw [r1]
        exact k _ _ _ o1
      · rw [if_pos z0] at r1
        refine ⟨by omega, ?_⟩
        rw [r1]
        exact k _ _ _ o1
    · rw [r0 (by have := ok.1; omega)]
      exact k _ _ _ o1
  refine slBegin_ok I q0 (by omega) (by decide) (by decide) (by decide) (fun N IN G => ?_)
  refine findLeast_ok IN q0 (by omega) G (fun O o1 o2 => ?_)
  (intro a ea _ _; have ea : a = O 10 3 := ea)
  rw [o2.1] at ea
  refine ⟨fun h => ?_, fun h => mod O _ o1 (fun _ => rfl) (fun z => absurd (ea.symm.trans h) z)⟩
  have ht : (bsA B q 6).1 ≠ -1 := fun z => h (ea.trans z)
  obtain ⟨g1, g2, g3, g4⟩ := o2.2 ht
  obtain ⟨b1, b2, b3, b4⟩ := ok.2 ht
  refine ⟨hw, fun hx => ?_, fun hx => ?_, fun hx => ?_, fun hx => ?_⟩
  · (intro u eu _ _; have eu : u = O 10 6 := eu)
    rw [g3] at eu
    (intro v ev _ _; have ev : v = O 10 7 := ev)
    rw [g4] at ev
    have md := fun r er => mod O r o1 (fun z => absurd z ht) (fun _ => er)
    rw [if_neg (by omega), if_neg (by omega), if_neg (by omega), ← eu, ← ev] at md
    obtain ⟨x, rfl⟩ : ∃ n : Nat, u = n := ⟨u.toNat, by omega⟩
    obtain ⟨y, rfl⟩ : ∃ n : Nat, v = n := ⟨v.toNat, by omega⟩
    refine leastTerms_gen (by omega) (by omega) (by omega) (by omega) (md _ ?_)
    by_cases z : w = 3
    · rw [if_pos z, if_pos (by omega)]; rfl
    · rw [if_neg z, if_neg (by omega)]; rfl
  · (intro u eu _ _; have eu : u = O 10 3 := eu)
    rw [o2.1] at eu
    exact mod O u o1 (fun z => absurd z ht) (fun _ => by rw [if_pos hx]; exact eu)
  · (intro u eu _ _; have eu : u = O 10 4 := eu)
    rw [g1] at eu
    exact mod O u o1 (fun z => absurd z ht) (fun _ => by rw [if_neg (by omega), if_pos hx]; exact eu)
  · (intro u eu _ _; have eu : u = O 10 5 := eu)
    rw [g2] at eu
    exact mod O u o1 (fun z => absurd z ht) (fun _ => by rw [if_neg (by omega), if_neg (by omega), if_pos hx]; exact eu)
