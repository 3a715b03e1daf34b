/-! ===== stands, plan ===== -/
theorem shl1 {B : Mem} (hR : RB B) {a : Int} (ea : a = B 32 0) : bShl 1 a = ((2 ^ nWk B : Nat) : Int) ∧ 1 ≤ 2 ^ nWk B ∧ 2 ^ nWk B ≤ 64 := by
  have hn := nWk_i hR
  have hp := pow64 (nWk B) hn.2
  have e2 := bShl_nat (x := 1) (k := nWk B) (by omega) (by omega)
  rw [Nat.one_mul] at e2
  refine ⟨?_, hp.2, hp.1⟩
  rw [ea, ← hn.1]
  exact e2
theorem both_stands {M B : Mem} {s : Int} {Q : Int → Int → Mem → Prop} (I : Inv M B) (hs : R32 s) (k : ∀ (r : Int) (N B' : Mem), Inv N B' → Q r r N) : w_S_stands M s (fun r M1 => w_m_stands M1 s (fun r2 M2 => Q r r2 M2)) := by
  obtain ⟨hC, hM, hR, hW, hS, hCC, hCM⟩ := id I
  unfold w_S_stands
  (intro a ea _ _; have ea : a = M 8 5 := ea)
  rw [c_works hC] at ea
  obtain ⟨sh, sh1, sh2⟩ := shl1 hR ea
  rw [sh]
  -- the model up to its bound
  have mod : ∀ (N : Mem) (r : Int), Inv N B → (¬ (0 ≤ s ∧ s ≤ (2 ^ nWk B : Nat) - 1) → r = -1001) → ((0 ≤ s ∧ s ≤ (2 ^ nWk B : Nat) - 1) → (qrl B → r = -1005) ∧ (¬ qrl B → (alS B s.toNat → r = 1) ∧ (¬ alS B s.toNat → r = 0))) → w_m_stands N s (fun r2 M2 => Q r r2 M2) := by
    intro N r IN r0 r1
    unfold w_m_stands
    refine ⟨hs, ?_⟩
    (intro b eb _ _; have eb : b = N 12 50 := eb)
    rw [m_works IN.2.1] at eb
    rw [(shl1 hR eb).1]
    refine ⟨by omega, m_in_ok hs (by decide) (by omega) (fun h => ?_) (fun s0 s1 => ?_)⟩
    · (first | refine t0n ?_ | refine t0e ?_)
      rw [r0 (by omega)]
      exact k _ _ _ IN
    (first | refine t1n ?_ | refine t1e ?_)
    have r1 := r1 ⟨s0, s1⟩
    refine m_findAllKept_ok IN (fun hq O o1 => ?_) (fun hq O o1 o2 => ?_)
    · (first | refine t0n ?_ | refine t0e ?_)
      rw [r1.1 hq]
      exact k _ _ _ o1
    (first | refine t1n ?_ | refine t1e ?_)
    refine m_lookAnew_ok o1 o2 (fun P p1 p2 p3 => ?_)
    obtain ⟨n, rfl⟩ : ∃ n : Nat, s = n := ⟨s.toNat, by omega⟩
    refine m_allStand_ok p1 p2 p3 (by omega) (fun al T t1 t2 t3 => ?_) (fun al T t1 t2 t3 => ?_)
    · (first | refine t1n ?_ | refine t1e ?_)
      rw [(r1.2 hq).1 al]
      exact k _ _ _ t1
    · (first | refine t0n ?_ | refine t0e ?_)
      rw [(r1.2 hq).2 al]
      exact k _ _ _ t1
  refine S_beyond_ok hs (by decide) (by omega) (fun h => ?_) (fun s0 s1 => ?_)
  · (first | refine t1n ?_ | refine t1e ?_)
    exact mod M _ I (fun _ => rfl) (fun z => absurd z (by omega))
  (first | refine t0n ?_ | refine t0e ?_)
  refine housesQuarrel_ok I (fun hq N IN => ?_) (fun hq N IN L => ?_)
  · (first | refine t1n ?_ | refine t1e ?_)
    exact mod N _ IN (fun z => absurd ⟨s0, s1⟩ z) (fun _ => ⟨fun _ => rfl, fun z => absurd hq z⟩)
  (first | refine t0n ?_ | refine t0e ?_)
  refine forgetVerdicts_ok IN L (fun O o1 o2 o3 => ?_)
  have md := fun (N : Mem) (r : Int) (IN : Inv N B) (h : (alS B s.toNat → r = 1) ∧ (¬ alS B s.toNat → r = 0)) => mod N r IN (fun z => absurd ⟨s0, s1⟩ z) (fun _ => ⟨fun z => absurd z hq, fun _ => h⟩)
  obtain ⟨n, rfl⟩ : ∃ n : Nat, s = n := ⟨s.toNat, by omega⟩
  refine allStand_ok o1 o2 o3 (by omega) (fun al T t1 t2 t3 => ?_) (fun al T t1 t2 t3 => ?_)
  · (first | refine t1n ?_ | refine t1e ?_)
    exact md T 1 t1 ⟨fun _ => rfl, fun z => absurd al z⟩
  · (first | refine t0n ?_ | refine t0e ?_)
    exact md T 0 t1 ⟨fun z => absurd z al, fun _ => rfl⟩
/-- the best of the sets 0 .. n-1 -/
noncomputable def bpl (B : Mem) : Nat → Int
  | 0 => -1
  | n + 1 => @ite Int ((bpl B n = -1 ∨ prc B n (nWk B) < prc B (bpl B n).toNat (nWk B)) ∧ alS B n) (Classical.propDecidable _) n (bpl B n)
noncomputable def bpr (B : Mem) (n : Nat) : Int := if bpl B n = -1 then -1 else prc B (bpl B n).toNat (nWk B)
theorem bpl_rng (B : Mem) : ∀ n : Nat, -1 ≤ bpl B n ∧ bpl B n < n
  | 0 => by show -1 ≤ (-1 : Int) ∧ (-1 : Int) < ((0 : Nat) : Int); omega
  | n + 1 => by
    have h := bpl_rng B n
    unfold bpl
    by_cases e : (bpl B n = -1 ∨ prc B n (nWk B) < prc B (bpl B n).toNat (nWk B)) ∧ alS B n
    · rw [if_pos e]; omega
    · rw [if_neg e]; omega
theorem bpl_yes {B : Mem} {n : Nat} (h : bpl B n = -1 ∨ prc B n (nWk B) < prc B (bpl B n).toNat (nWk B)) (al : alS B n) : bpl B (n + 1) = n ∧ bpr B (n + 1) = prc B n (nWk B) := by
  have e : bpl B (n + 1) = n := if_pos ⟨h, al⟩
  refine ⟨e, ?_⟩
  unfold bpr
  rw [e, if_neg (by omega)]
  rfl
theorem bpl_no {B : Mem} {n : Nat} (h : ¬ ((bpl B n = -1 ∨ prc B n (nWk B) < prc B (bpl B n).toNat (nWk B)) ∧ alS B n)) : bpl B (n + 1) = bpl B n ∧ bpr B (n + 1) = bpr B n := by
  have e : bpl B (n + 1) = bpl B n := if_neg h
  refine ⟨e, ?_⟩
  unfold bpr
  rw [e]
section PLAN
variable {M N B : Mem}
theorem S_plan_L0_ok {w : Int} {Q : Int → Mem → Prop} (I : Inv M B) (L : lkd M B) (V : vok M B) (hw : R32 w) (kk : ∀ N, Inv N B → Q (if w = 0 then bpl B (2 ^ nWk B) else bpr B (2 ^ nWk B)) N) : w_S_plan_L0 Q w (-1) (-1) 0 M := by
  have hR := I.2.2.1
  have hnw := nWk_i hR
  unfold w_S_plan_L0
  intro X hX
  have key : ∀ (d n : Nat) (N : Mem), n + d = 2 ^ nWk B → Inv N B → lkd N B → vok N B → X (bpl B n) (bpr B n) n N := by
    intro d
    induction d with
    | zero =>
      intro n N hd n1 n2 n3
      rw [Nat.add_zero] at hd
      apply hX
      unfold w_S_plan_B0
      (intro a ea _ _; have ea : a = N 8 5 := ea)
      rw [c_works n1.1] at ea
      obtain ⟨sh, sh1, sh2⟩ := shl1 hR ea
      rw [sh]
      rw [← hd] at kk
      refine ⟨by omega, by omega, fun _ => ⟨hw, fun h => ?_, fun h => ?_⟩, fun h => absurd h (by omega)⟩
      · have := kk N n1
        rw [if_neg h] at this
        exact this
      · have := kk N n1
        rw [if_pos h] at this
        exact this
    | succ d ih =>
      intro n N hd n1 n2 n3
      have hb := bpl_rng B n
      have hp := prc_rng hR n (nWk B)
      have hp2 := prc_rng hR (bpl B n).toNat (nWk B)
      have ebp : bpr B n = if bpl B n = -1 then -1 else prc B (bpl B n).toNat (nWk B) := rfl
      have no : ∀ P, Inv P B → lkd P B → vok P B → ¬ ((bpl B n = -1 ∨ prc B n (nWk B) < prc B (bpl B n).toNat (nWk B)) ∧ alS B n) → X (bpl B n) (bpr B n) ((n : Int) + 1) P := by
        intro P p1 p2 p3 h
        have := ih (n + 1) P (by omega) p1 p2 p3
        rw [(bpl_no h).1, (bpl_no h).2] at this
        exact this
      apply hX
      unfold w_S_plan_B0
      (intro a ea _ _; have ea : a = N 8 5 := ea)
      rw [c_works n1.1] at ea
      obtain ⟨sh, sh1, sh2⟩ := shl1 hR ea
      rw [sh]
      refine ⟨by omega, by omega, fun h => absurd h (by omega), fun _ => ?_⟩
      have J : (bpl B n = -1 ∨ prc B n (nWk B) < prc B (bpl B n).toNat (nWk B)) → w_S_plan_j0 Q X w (bpl B n) (bpr B n) n (prc B n (nWk B)) N := by
        intro h
        unfold w_S_plan_j0
        refine allStand_ok n1 n2 n3 (by omega) (fun al P p1 p2 p3 => ?_) (fun al P p1 p2 p3 => ?_)
        · (first | refine t1n ?_ | refine t1e ?_)
          have := ih (n + 1) P (by omega) p1 p2 p3
          rw [(bpl_yes h al).1, (bpl_yes h al).2] at this
          exact this
        · (first | refine t0n ?_ | refine t0e ?_)
          exact no P p1 p2 p3 (fun z => al z.2)
      refine priceOf_ok n1.1 hR (by omega) ⟨by omega, fun h => J (Or.inl h), fun h => ?_⟩
      rw [if_neg h] at ebp
      refine ⟨by omega, by omega, fun y => no N n1 n2 n3 (fun z => z.1.elim h (fun z => by omega)), fun y => J (Or.inr (by omega))⟩
  exact key (2 ^ nWk B) 0 M (by omega) I L V
theorem m_plan_L0_ok {w : Int} {Q : Int → Mem → Prop} (I : Inv M B) (F : fnd M B) (L : lok M B) (hw : R32 w) (kk : ∀ N, Inv N B → Q (if w = 0 then bpl B (2 ^ nWk B) else bpr B (2 ^ nWk B)) N) : w_m_plan_L0 Q w (-1) 0 M := by
  have hR := I.2.2.1
  have hnw := nWk_i hR
  unfold w_m_plan_L0
  intro X hX
  have key : ∀ (d n : Nat) (N : Mem), n + d = 2 ^ nWk B → Inv N B → fnd N B → lok N B → X (bpl B n) n N := by
    intro d
    induction d with
    | zero =>
      intro n N hd n1 n2 n3
      rw [Nat.add_zero] at hd
      have hb := bpl_rng B n
      have ebp : bpr B n = if bpl B n = -1 then -1 else prc B (bpl B n).toNat (nWk B) := rfl
      apply hX
      unfold w_m_plan_B0
      (intro a ea _ _; have ea : a = N 12 50 := ea)
      rw [m_works n1.2.1] at ea
      obtain ⟨sh, sh1, sh2⟩ := shl1 hR ea
      rw [sh]
      rw [← hd] at kk
      have kk := kk N n1
      refine ⟨by omega, by omega, fun _ => ⟨by omega, fun h => ⟨hw, fun hz => ?_, fun hz => ?_⟩, fun h => ?_⟩, fun h => absurd h (by omega)⟩
      · rw [if_neg hz, ebp, if_neg (by omega)] at kk
        have e : bpl B n = ((bpl B n).toNat : Nat) := by omega
        have := m_priceOf_ok (s := (bpl B n).toNat) (Q := fun a12 => Q a12 N) n1.2.1 hR (by omega) kk
        rw [← e] at this
        exact this
      · rw [if_pos hz] at kk
        exact kk
      · have e : bpl B n = -1 := by omega
        rw [ebp, if_pos e, e] at kk
        split at kk <;> exact kk
    | succ d ih =>
      intro n N hd n1 n2 n3
      have hb := bpl_rng B n
      have hp := prc_rng hR n (nWk B)
      have hp2 := prc_rng hR (bpl B n).toNat (nWk B)
      have no : ∀ P, Inv P B → fnd P B → lok P B → ¬ ((bpl B n = -1 ∨ prc B n (nWk B) < prc B (bpl B n).toNat (nWk B)) ∧ alS B n) → X (bpl B n) ((n : Int) + 1) P := by
        intro P p1 p2 p3 h
        have := ih (n + 1) P (by omega) p1 p2 p3
        rw [(bpl_no h).1] at this
        exact this
      apply hX
      unfold w_m_plan_B0
      (intro a ea _ _; have ea : a = N 12 50 := ea)
      rw [m_works n1.2.1] at ea
      obtain ⟨sh, sh1, sh2⟩ := shl1 hR ea
      rw [sh]
      have J : (bpl B n = -1 ∨ prc B n (nWk B) < prc B (bpl B n).toNat (nWk B)) → w_m_plan_j0 Q X w (bpl B n) n 1 N := by
        intro h
        unfold w_m_plan_j0
        refine ⟨by decide, fun z => absurd z (by decide), fun _ => ?_⟩
        refine m_allStand_ok n1 n2 n3 (by omega) (fun al P p1 p2 p3 => ?_) (fun al P p1 p2 p3 => ?_)
        · (first | refine t1n ?_ | refine t1e ?_)
          have := ih (n + 1) P (by omega) p1 p2 p3
          rw [(bpl_yes h al).1] at this
          exact this
        · (first | refine t0n ?_ | refine t0e ?_)
          exact no P p1 p2 p3 (fun z => al z.2)
      refine ⟨by omega, by omega, fun h => absurd h (by omega), fun _ => ⟨by omega, fun h => J (Or.inl (by omega)), fun h => ?_⟩⟩
      refine m_priceOf_ok n1.2.1 hR (by omega) ?_
      have e : bpl B n = ((bpl B n).toNat : Nat) := by omega
      have e' : w_m_priceOf N (bpl B n) = w_m_priceOf N ((bpl B n).toNat : Nat) := by rw [← e]
      rw [e']
      refine m_priceOf_ok (s := (bpl B n).toNat) n1.2.1 hR (by omega) ⟨by omega, by omega, fun y => ?_, fun y => J (Or.inr (by omega))⟩
      unfold w_m_plan_j0
      exact ⟨by decide, fun _ => no N n1 n2 n3 (fun z => z.1.elim (fun z => by omega) (fun z => by omega)), fun z => absurd rfl z⟩
  exact key (2 ^ nWk B) 0 M (by omega) I F L
theorem both_plan {w : Int} {Q : Int → Int → Mem → Prop} (I : Inv M B) (hw : R32 w) (k : ∀ (r : Int) (N B' : Mem), Inv N B' → Q r r N) : w_S_plan M w (fun r M1 => w_m_plan M1 w (fun r2 M2 => Q r r2 M2)) := by
  obtain ⟨hC, hM, hR, hW, hS, hCC, hCM⟩ := id I
  unfold w_S_plan
  refine S_beyond_ok hw (by decide) (by decide) (fun h => ?_) (fun w0 w1 => ?_)
  · (first | refine t1n ?_ | refine t1e ?_)
    unfold w_m_plan
    refine ⟨hw, m_in_ok hw (by decide) (by decide) (fun _ => ?_) (fun a b => absurd h (by omega))⟩
    (first | refine t0n ?_ | refine t0e ?_)
    exact k _ _ _ I
  (first | refine t0n ?_ | refine t0e ?_)
  refine housesQuarrel_ok I (fun hq N IN => ?_) (fun hq N IN L => ?_)
  · (first | refine t1n ?_ | refine t1e ?_)
    unfold w_m_plan
    refine ⟨hw, m_in_ok hw (by decide) (by decide) (fun z => absurd z (by omega)) (fun _ _ => ?_)⟩
    (first | refine t1n ?_ | refine t1e ?_)
    refine m_findAllKept_ok IN (fun _ O o1 => ?_) (fun z => absurd hq z)
    (first | refine t0n ?_ | refine t0e ?_)
    exact k _ _ _ o1
  · (first | refine t0n ?_ | refine t0e ?_)
    refine forgetVerdicts_ok IN L (fun O o1 o2 o3 => ?_)
    refine S_plan_L0_ok o1 o2 o3 hw (fun P p1 => ?_)
    unfold w_m_plan
    refine ⟨hw, m_in_ok hw (by decide) (by decide) (fun z => absurd z (by omega)) (fun _ _ => ?_)⟩
    (first | refine t1n ?_ | refine t1e ?_)
    refine m_findAllKept_ok p1 (fun z => absurd z hq) (fun _ T t1 t2 => ?_)
    (first | refine t1n ?_ | refine t1e ?_)
    refine m_lookAnew_ok t1 t2 (fun U u1 u2 u3 => ?_)
    exact m_plan_L0_ok u1 u2 u3 hw (fun V v1 => k _ _ _ v1)
end PLAN
