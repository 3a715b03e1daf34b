/-! ===== margin ===== -/
theorem both_margin {M B : Mem} {q a b l w : Int} {Q : Int → Int → Mem → Prop} (I : Inv M B) (hq : R32 q) (ha : R32 a) (hb : R32 b) (hl : R32 l) (hw : R32 w) (k : ∀ (r : Int) (N B' : Mem), Inv N B' → Q r r N) : w_S_margin M q a b l w (fun r M1 => w_m_margin M1 q a b l w (fun r2 M2 => Q r r2 M2)) := by
  obtain ⟨hC, hM, hR, hW, hS, hCC, hCM⟩ := id I
  have hsh := b_shakes hR 0
  unfold w_S_margin
  refine hasShake_ok hC hq (fun e => ?_) (fun q0 q1 => ?_)
  · (first | refine t0n ?_ | refine t0e ?_)
    unfold w_m_margin
    refine m_isShake_ok hM hq (fun _ => ?_) (fun x y => absurd ⟨x, y⟩ e)
    (first | refine t0n ?_ | refine t0e ?_)
    exact k _ _ _ I
  (first | refine t1n ?_ | refine t1e ?_)
  refine hasLayer_ok hC ha hl (fun e => ?_) (fun a0 a6 l0 l1 => ?_)
  · (first | refine t0n ?_ | refine t0e ?_)
    unfold w_m_margin
    refine m_isShake_ok hM hq (fun e => absurd ⟨q0, q1⟩ e) (fun _ _ => ?_)
    (first | refine t1n ?_ | refine t1e ?_)
    refine m_isLayer_ok hM ha hl (fun _ => ?_) (fun x y z u => absurd ⟨x, y, z, u⟩ e)
    (first | refine t0n ?_ | refine t0e ?_)
    exact k _ _ _ I
  (first | refine t1n ?_ | refine t1e ?_)
  refine hasColumn_ok hb (fun e => ?_) (fun b0 b6 => ?_)
  · (first | refine t0n ?_ | refine t0e ?_)
    unfold w_m_margin
    refine m_isShake_ok hM hq (fun e => absurd ⟨q0, q1⟩ e) (fun _ _ => ?_)
    (first | refine t1n ?_ | refine t1e ?_)
    refine m_isLayer_ok hM ha hl (fun e => absurd ⟨a0, a6, l0, l1⟩ e) (fun _ _ _ _ => ?_)
    (first | refine t1n ?_ | refine t1e ?_)
    refine m_isColumn_ok hb (fun _ => ?_) (fun x y => absurd ⟨x, y⟩ e)
    (first | refine t0n ?_ | refine t0e ?_)
    exact k _ _ _ I
  (first | refine t1n ?_ | refine t1e ?_)
  have hn := nly_i hR a
  obtain ⟨l, rfl⟩ : ∃ n : Nat, l = n := ⟨l.toNat, by omega⟩
  have hmd := mid_rng hR a (k := l) (by omega)
  -- the model's half
  have mod : ∀ (N : Mem) (r : Int), Inv N B → (¬ (0 ≤ w ∧ w ≤ 2 ∧ a ≠ b) → r = -1002) → (0 ≤ w ∧ w ≤ 2 ∧ a ≠ b → (w = 2 → r = mid B a l) ∧ (w ≠ 2 → (slp B a b (mid B a l) → r = (if w = 0 then sH B q a b (mid B a l) else sD B a b (mid B a l)) / (Nat.gcd (sH B q a b (mid B a l)).toNat (sD B a b (mid B a l)).toNat : Nat)) ∧ (¬ slp B a b (mid B a l) → r = -1003))) → w_m_margin N q a b l w (fun r2 M2 => Q r r2 M2) := by
    intro N r IN r0 r1
    unfold w_m_margin
    refine m_isShake_ok IN.2.1 hq (fun e => absurd ⟨q0, q1⟩ e) (fun _ _ => ?_)
    (first | refine t1n ?_ | refine t1e ?_)
    refine m_isLayer_ok IN.2.1 ha hl (fun e => absurd ⟨a0, a6, l0, l1⟩ e) (fun _ _ _ _ => ?_)
    (first | refine t1n ?_ | refine t1e ?_)
    refine m_isColumn_ok hb (fun e => absurd ⟨b0, b6⟩ e) (fun _ _ => ?_)
    (first | refine t1n ?_ | refine t1e ?_)
    refine ⟨hw, m_in_ok hw (by decide) (by decide) (fun e => ?_) (fun w0 w1 => ?_)⟩
    · (first | refine t0n ?_ | refine t0e ?_)
      rw [r0 (by omega)]
      exact k _ _ _ IN
    (first | refine t1n ?_ | refine t1e ?_)
    refine ⟨ha, hb, fun hab => ?_, fun hab => ?_⟩
    · have r1 := r1 ⟨w0, w1, hab⟩
      refine m_middle_ok IN.2.1 a0 a6 (by omega) ⟨hw, fun h2 => ?_, fun h2 => ?_⟩
      · have r1 := r1.2 h2
        refine m_findSlip_ok IN q0 (by omega) a0 a6 b0 b6 (by omega) (fun s O o1 o2 o3 => ?_) (fun s O o1 => ?_)
        · (first | refine t1n ?_ | refine t1e ?_)
          have hhs := hs_rng hR hW q (mid B a l) (min a b) (max a b - min a b + 1).toNat
          have hwa := wab_rng hR a (mid B a l) (nly B a)
          have hwb := wab_rng hR b (mid B a l) (nly B b)
          have hnb := nly_i hR b
          have hs2 := s.2
          have r1 := r1.1 s
          (intro u eu _ _; have eu : u = O 12 48 := eu)
          rw [o2] at eu
          (intro v ev _ _; have ev : v = O 12 49 := ev)
          rw [o3] at ev
          rw [← eu, ← ev] at r1
          have eu' : u = hs B q (mid B a l) (min a b) (max a b - min a b + 1).toNat := eu
          have ev' : v = wab B a (mid B a l) (nly B a) - wab B b (mid B a l) (nly B b) := ev
          obtain ⟨x, rfl⟩ : ∃ n : Nat, u = n := ⟨u.toNat, by omega⟩
          obtain ⟨y, rfl⟩ : ∃ n : Nat, v = n := ⟨v.toNat, by omega⟩
          have g0 : 0 < Nat.gcd x y := Nat.gcd_pos_of_pos_right x (by omega)
          have g1 : Nat.gcd x y ≤ y := Nat.le_of_dvd (by omega) (Nat.gcd_dvd_right x y)
          refine m_gcd_ok y x (by omega) (by omega) ⟨hw, fun z => ?_, fun z => ?_⟩
          · (intro d ed _ _; have ed : d = O 12 49 := ed)
            rw [o3, ← ev] at ed
            rw [if_neg z] at r1
            rw [ed]
            refine ⟨by omega, ?_⟩
            rw [r1]
            exact k _ _ _ o1
          · (intro d ed _ _; have ed : d = O 12 48 := ed)
            rw [o2, ← eu] at ed
            rw [if_pos z] at r1
            rw [ed]
            refine ⟨by omega, ?_⟩
            rw [r1]
            exact k _ _ _ o1
        · (first | refine t0n ?_ | refine t0e ?_)
          rw [r1.2 s]
          exact k _ _ _ o1
      · rw [r1.1 h2]
        exact ⟨by omega, k _ _ _ IN⟩
    · rw [r0 (fun z => z.2.2 hab)]
      exact k _ _ _ IN
  refine ⟨ha, hb, fun hab => mod M _ I (fun _ => rfl) (fun z => absurd hab z.2.2), fun hab => ?_⟩
  refine S_beyond_ok hw (by decide) (by decide) (fun e => ?_) (fun w0 w1 => ?_)
  · (first | refine t1n ?_ | refine t1e ?_)
    exact mod M _ I (fun _ => rfl) (fun z => absurd z.1 (by omega))
  (first | refine t0n ?_ | refine t0e ?_)
  refine middleOf_ok hC a0 a6 (by omega) ⟨hw, fun h2 => ⟨ha, hb, ha, hb, ?_⟩, fun h2 => ⟨by omega, mod M _ I (fun z => absurd ⟨w0, w1, hab⟩ z) (fun _ => ⟨fun _ => rfl, fun z => absurd h2 z⟩)⟩⟩
  refine slBegin_ok I q0 (by omega) (by omega) (by omega) (by omega) (fun N IN G => ?_)
  have agS : ∀ O, FrS N O → Inv O B := fun O f => IN.ag (slAg (fun h e _ => f.1 h e))
  refine weigh_ok IN a0 a6 b0 b6 (by omega) G (fun s O o1 o2 o3 => ?_) (fun s O o3 => ?_)
  · (first | refine t1n ?_ | refine t1e ?_)
    have hhs := hs_rng hR hW q (mid B a l) (min a b) (max a b - min a b + 1).toNat
    have hwa := wab_rng hR a (mid B a l) (nly B a)
    have hwb := wab_rng hR b (mid B a l) (nly B b)
    have hnb := nly_i hR b
    have hs2 := s.2
    have fin' : ∀ r : Int, r = (if w = 0 then sH B q a b (mid B a l) else sD B a b (mid B a l)) / (Nat.gcd (sH B q a b (mid B a l)).toNat (sD B a b (mid B a l)).toNat : Nat) → w_m_margin O q a b l w (fun r2 M2 => Q r r2 M2) := fun r er => mod O r (agS O o3) (fun z => absurd ⟨w0, w1, hab⟩ z) (fun _ => ⟨fun z => absurd z h2, fun _ => ⟨fun _ => er, fun z => absurd s z⟩⟩)
    (intro u eu _ _; have eu : u = O 10 1 := eu)
    rw [o1] at eu
    (intro v ev _ _; have ev : v = O 10 2 := ev)
    rw [o2] at ev
    rw [← eu, ← ev] at fin'
    have eu' : u = hs B q (mid B a l) (min a b) (max a b - min a b + 1).toNat := eu
    have ev' : v = wab B a (mid B a l) (nly B a) - wab B b (mid B a l) (nly B b) := ev
    obtain ⟨x, rfl⟩ : ∃ n : Nat, u = n := ⟨u.toNat, by omega⟩
    obtain ⟨y, rfl⟩ : ∃ n : Nat, v = n := ⟨v.toNat, by omega⟩
    exact leastTerms_gen (by omega) (by omega) (by omega) hw (fin' _ rfl)
  · (first | refine t0n ?_ | refine t0e ?_)
    exact mod O _ (agS O o3) (fun z => absurd ⟨w0, w1, hab⟩ z) (fun _ => ⟨fun z => absurd z h2, fun _ => ⟨fun z => absurd z s, fun _ => rfl⟩⟩)
