/-! ===== works: sets, sums, prices; a house wider sinks no less ===== -/
abbrev nWk (B : Mem) : Nat := (B 32 0).toNat
/-- the set of the first n works on a column -/
def so (B : Mem) (c : Int) : Nat → Nat
  | 0 => 0
  | n + 1 => if B 33 n = c then so B c n ||| 2 ^ n else so B c n
/-- what the works of a set, of a kind, do on a column -/
def sWk (B : Mem) (c kd : Int) (s : Nat) : Nat → Int
  | 0 => 0
  | n + 1 => sWk B c kd s n + (if s.testBit n = true ∧ B 33 n = c ∧ B 34 n = kd then B 35 n else 0)
def prc (B : Mem) (s : Nat) : Nat → Int
  | 0 => 0
  | n + 1 => prc B s n + (if s.testBit n = true then B 36 n else 0)
section WORKS
variable {M N B : Mem}
theorem nWk_i (hR : RB B) : ((nWk B : Nat) : Int) = B 32 0 ∧ nWk B ≤ 6 := by
  have := b_works hR 0
  unfold nWk
  omega
theorem bit1 {s i : Nat} (hs : s < 2147483648) (hi : i < 32) : bAnd (bShr s i) 1 = if s.testBit i = true then 1 else 0 := by
  rw [bit_and1 hs hi, bit_nat]
theorem so_lt (c : Int) : ∀ n : Nat, so B c n < 2 ^ n
  | 0 => by show 0 < 2 ^ 0; decide
  | n + 1 => by
    have h := so_lt c n
    have h1 : 2 ^ n < 2 ^ (n + 1) := Nat.pow_lt_pow_right (by decide) (by omega)
    unfold so
    split
    · exact Nat.or_lt_two_pow (by omega) h1
    · omega
theorem so_bit (c : Int) : ∀ (n j : Nat), j < n → B 33 j = c → (so B c n).testBit j = true
  | 0, j, hj, _ => absurd hj (by omega)
  | n + 1, j, hj, e => by
    unfold so
    by_cases z : j = n
    · subst z
      rw [if_pos e, Nat.testBit_or, Nat.testBit_two_pow_self, Bool.or_true]
    · have := so_bit c n j (by omega) e
      split
      · rw [Nat.testBit_or, this, Bool.true_or]
      · exact this
theorem pow64 : ∀ n : Nat, n ≤ 6 → 2 ^ n ≤ 64 ∧ 1 ≤ 2 ^ n := by decide
theorem so_64 (hR : RB B) (c : Int) : so B c (nWk B) < 64 := by
  have h := so_lt (B := B) c (nWk B)
  have := (pow64 (nWk B) (nWk_i hR).2).1
  omega
theorem own_64 (hR : RB B) (c : Int) (s : Nat) : s &&& so B c (nWk B) < 64 := Nat.lt_of_le_of_lt Nat.and_le_right (so_64 hR c)
theorem sWk_own (c kd : Int) (s m : Nat) : ∀ n : Nat, n ≤ m → sWk B c kd (s &&& so B c m) n = sWk B c kd s n
  | 0, _ => rfl
  | n + 1, hn => by
    unfold sWk
    rw [sWk_own c kd s m n (by omega)]
    by_cases e : B 33 n = c
    · rw [Nat.testBit_and, so_bit c m n (by omega) e, Bool.and_true]
    · rw [if_neg (fun z => e z.2.1), if_neg (fun z => e z.2.1)]
theorem sWk_rng (hR : RB B) (c kd : Int) (s : Nat) : ∀ n : Nat, 0 ≤ sWk B c kd s n ∧ sWk B c kd s n ≤ 500 * n
  | 0 => by unfold sWk; omega
  | n + 1 => by
    have h1 := sWk_rng hR c kd s n
    have h2 := b_kamt hR n
    unfold sWk
    split <;> omega
theorem prc_rng (hR : RB B) (s : Nat) : ∀ n : Nat, 0 ≤ prc B s n ∧ prc B s n ≤ 999 * n
  | 0 => by unfold prc; omega
  | n + 1 => by
    have h1 := prc_rng hR s n
    have h2 := b_kpri hR n
    unfold prc
    split <;> omega
theorem holds_ok {s i : Nat} {Q : Int → Prop} (hs : s < 64) (hi : i < 6) (k1 : s.testBit i = true → Q 1) (k0 : ¬ s.testBit i = true → Q 0) : w_Works_holds M s i Q := by
  unfold w_Works_holds
  rw [bit1 (by omega) (by omega)]
  by_cases h : s.testBit i = true
  · rw [if_pos h]
    exact ⟨by decide, fun z => absurd rfl z, fun _ => k1 h⟩
  · rw [if_neg h]
    exact ⟨by decide, fun _ => k0 h, fun z => absurd z (by decide)⟩
theorem sumOn_ok {c kd : Int} {s : Nat} {Q : Int → Prop} (hC : CB M B) (hR : RB B) (hc : R32 c) (hk : R32 kd) (hs : s < 64) (kk : Q (sWk B c kd s (nWk B))) : w_Works_sumOn M c kd s Q := by
  have hn := nWk_i hR
  unfold w_Works_sumOn w_Works_sumOn_L0
  intro X hX
  have key : ∀ (d i : Nat), i + d = nWk B → X (sWk B c kd s i) i := by
    intro d
    induction d with
    | zero =>
      intro i hi
      rw [Nat.add_zero] at hi
      apply hX
      unfold w_Works_sumOn_B0
      (intro a ea _ _; have ea : a = M 8 5 := ea)
      rw [c_works hC] at ea
      exact ⟨by omega, fun _ => by rw [hi]; exact kk, fun h => absurd h (by omega)⟩
    | succ d ih =>
      intro i hi
      have st := ih (i + 1) (by omega)
      have e1 : sWk B c kd s (i + 1) = sWk B c kd s i + (if s.testBit i = true ∧ B 33 i = c ∧ B 34 i = kd then B 35 i else 0) := rfl
      have no : ¬ (s.testBit i = true ∧ B 33 i = c ∧ B 34 i = kd) → X (sWk B c kd s i) ((i : Int) + 1) := by
        intro h
        rw [if_neg h, Int.add_zero] at e1
        rw [e1] at st
        exact st
      apply hX
      unfold w_Works_sumOn_B0
      (intro a ea _ _; have ea : a = M 8 5 := ea)
      rw [c_works hC] at ea
      refine ⟨by omega, fun h => absurd h (by omega), fun _ => ?_⟩
      refine holds_ok hs (by omega) (fun hb => ?_) (fun hb => ?_)
      · (first | refine t1n ?_ | refine t1e ?_)
        refine ⟨by omega, ?_⟩
        (intro x ex _ _; have ex : x = M 45 i := ex)
        rw [c_kcol hC] at ex
        refine ⟨hc, fun h => no (fun z => h (ex.trans z.2.1)), fun h => ⟨by omega, ?_⟩⟩
        (intro y ey _ _; have ey : y = M 46 i := ey)
        rw [c_kkin hC] at ey
        refine ⟨hk, fun h2 => no (fun z => h2 (ey.trans z.2.2)), fun h2 => ⟨by omega, ?_⟩⟩
        (intro z ez _ _; have ez : z = M 47 i := ez)
        rw [c_kamt hC] at ez
        rw [if_pos ⟨hb, ex.symm.trans h, ey.symm.trans h2⟩, ← ez] at e1
        rw [e1] at st
        exact st
      · (first | refine t0n ?_ | refine t0e ?_)
        exact no (fun z => hb z.1)
  exact key (nWk B) 0 (by omega)
theorem setOn_ok {c : Int} {Q : Int → Prop} (hC : CB M B) (hR : RB B) (hc : R32 c) (kk : Q (so B c (nWk B) : Nat)) : w_Works_setOn M c Q := by
  have hn := nWk_i hR
  unfold w_Works_setOn w_Works_setOn_L0
  intro X hX
  have key : ∀ (d i : Nat), i + d = nWk B → X (so B c i : Nat) i := by
    intro d
    induction d with
    | zero =>
      intro i hi
      rw [Nat.add_zero] at hi
      apply hX
      unfold w_Works_setOn_B0
      (intro a ea _ _; have ea : a = M 8 5 := ea)
      rw [c_works hC] at ea
      exact ⟨by omega, fun _ => by rw [hi]; exact kk, fun h => absurd h (by omega)⟩
    | succ d ih =>
      intro i hi
      have st := ih (i + 1) (by omega)
      have e1 : so B c (i + 1) = if B 33 i = c then so B c i ||| 2 ^ i else so B c i := rfl
      have hl := so_lt (B := B) c i
      have hp := pow64 i (by omega)
      apply hX
      unfold w_Works_setOn_B0
      (intro a ea _ _; have ea : a = M 8 5 := ea)
      rw [c_works hC] at ea
      refine ⟨by omega, fun h => absurd h (by omega), fun _ => ⟨by omega, ?_⟩⟩
      (intro x ex _ _; have ex : x = M 45 i := ex)
      rw [c_kcol hC] at ex
      refine ⟨hc, fun h => ?_, fun h => ?_⟩
      · rw [if_neg (fun z => h (ex.trans z))] at e1
        rw [e1] at st
        exact st
      · rw [if_pos (ex.symm.trans h)] at e1
        have e2 := bShl_nat (x := 1) (k := i) (by omega) (by omega)
        rw [Nat.one_mul] at e2
        have e2 : bShl 1 (i : Int) = ((2 ^ i : Nat) : Int) := e2
        rw [e2, bOr_nat (by omega) (by omega), ← e1]
        exact st
  exact key (nWk B) 0 (by omega)
theorem priceOf_ok {s : Nat} {Q : Int → Prop} (hC : CB M B) (hR : RB B) (hs : s < 64) (kk : Q (prc B s (nWk B))) : w_Works_priceOf M s Q := by
  have hn := nWk_i hR
  unfold w_Works_priceOf w_Works_priceOf_L0
  intro X hX
  have key : ∀ (d i : Nat), i + d = nWk B → X (prc B s i) i := by
    intro d
    induction d with
    | zero =>
      intro i hi
      rw [Nat.add_zero] at hi
      apply hX
      unfold w_Works_priceOf_B0
      (intro a ea _ _; have ea : a = M 8 5 := ea)
      rw [c_works hC] at ea
      exact ⟨by omega, fun _ => by rw [hi]; exact kk, fun h => absurd h (by omega)⟩
    | succ d ih =>
      intro i hi
      have st := ih (i + 1) (by omega)
      have e1 : prc B s (i + 1) = prc B s i + (if s.testBit i = true then B 36 i else 0) := rfl
      apply hX
      unfold w_Works_priceOf_B0
      (intro a ea _ _; have ea : a = M 8 5 := ea)
      rw [c_works hC] at ea
      refine ⟨by omega, fun h => absurd h (by omega), fun _ => ?_⟩
      refine holds_ok hs (by omega) (fun hb => ?_) (fun hb => ?_)
      · (first | refine t1n ?_ | refine t1e ?_)
        refine ⟨by omega, ?_⟩
        (intro z ez _ _; have ez : z = M 48 i := ez)
        rw [c_kpri hC] at ez
        rw [if_pos hb, ← ez] at e1
        rw [e1] at st
        exact st
      · (first | refine t0n ?_ | refine t0e ?_)
        rw [if_neg hb, Int.add_zero] at e1
        rw [e1] at st
        exact st
  exact key (nWk B) 0 (by omega)
theorem m_priceOf_ok {s : Nat} {Q : Int → Prop} (hM : MB M B) (hR : RB B) (hs : s < 64) (kk : Q (prc B s (nWk B))) : w_m_priceOf M s Q := by
  have hn := nWk_i hR
  unfold w_m_priceOf w_m_priceOf_L0
  intro X hX
  have key : ∀ (d i : Nat), i + d = nWk B → X (prc B s i) i := by
    intro d
    induction d with
    | zero =>
      intro i hi
      rw [Nat.add_zero] at hi
      apply hX
      unfold w_m_priceOf_B0
      (intro a ea _ _; have ea : a = M 12 50 := ea)
      rw [m_works hM] at ea
      exact ⟨by omega, fun _ => by rw [hi]; exact kk, fun h => absurd h (by omega)⟩
    | succ d ih =>
      intro i hi
      have st := ih (i + 1) (by omega)
      have e1 : prc B s (i + 1) = prc B s i + (if s.testBit i = true then B 36 i else 0) := rfl
      apply hX
      unfold w_m_priceOf_B0
      (intro a ea _ _; have ea : a = M 12 50 := ea)
      rw [m_works hM] at ea
      refine ⟨by omega, fun h => absurd h (by omega), fun _ => ⟨by omega, ?_⟩⟩
      (intro z ez _ _; have ez : z = M 93 i := ez)
      rw [m_kpri hM] at ez
      rw [bit1 (by omega) (by omega)]
      by_cases hb : s.testBit i = true
      · rw [if_pos hb, ← ez] at e1
        rw [e1] at st
        rw [if_pos hb, Int.one_mul]
        exact st
      · rw [if_neg hb] at e1
        rw [e1] at st
        rw [if_neg hb, Int.zero_mul]
        exact st
  exact key (nWk B) 0 (by omega)
/-- a wider house never sinks less -/
theorem prt_mono (hR : RB B) {c : Int} {P : Nat → Int × Int} {w w' : Int} (h : w ≤ w') (k : Nat) : prt B c P w k ≤ prt B c P w' k := by
  have h2 := rlk_rng hR c k 3
  have h3 : max 0 (min (B 4 (c * 6 + k)) (2 * w - dep B c k)) * rlk B c k 3 ≤ max 0 (min (B 4 (c * 6 + k)) (2 * w' - dep B c k)) * rlk B c k 3 := Int.mul_le_mul_of_nonneg_right (by omega) h2.1
  unfold prt
  split
  · exact Int.le_refl _
  · exact Int.ediv_le_ediv (by decide) h3
theorem snk_mono (hR : RB B) {c : Int} {P : Nat → Int × Int} {w w' : Int} (h : w ≤ w') : ∀ n : Nat, snk B c P w n ≤ snk B c P w' n
  | 0 => Int.le_refl _
  | n + 1 => by
    have h1 := snk_mono hR (c := c) (P := P) h n
    have h2 := prt_mono hR (c := c) (P := P) h n
    unfold snk
    omega
/-- no house on the column sinks -/
def safe (B : Mem) (c : Int) (P : Nat → Int × Int) : Prop := snk B c P (wd B c (nHo B)) (nly B c) < B 10 23
theorem m_isSafe_ok {c x : Int} {P : Nat → Int × Int} {Q : Int → Prop} (hM : MB M B) (hR : RB B) (hW : WF B) (hc : R32 c) (yh : hasH B c) (hp : PM M P (nly B c)) (k1 : safe B c P → Q 1) (k0 : ¬ safe B c P → Q 0) : w_m_isSafe M c x Q := by
  have hn := nHo_i hR
  have hwp := (wd_pos hR hW c).mpr yh
  unfold w_m_isSafe w_m_isSafe_L0
  intro X hX
  have key : ∀ (d i : Nat), i + d = nHo B → (∀ h : Nat, h < i → B 24 h = c → snk B c P (B 25 h) (nly B c) < B 10 23) → X i := by
    intro d
    induction d with
    | zero =>
      intro i hi hs
      apply hX
      unfold w_m_isSafe_B0
      (intro a ea _ _; have ea : a = M 12 39 := ea)
      rw [m_houses hM] at ea
      refine ⟨by omega, fun _ => k1 ?_, fun h => absurd h (by omega)⟩
      rcases wd_is (B := B) c (nHo B) with e | ⟨h, h1, h2, h3⟩
      · omega
      · unfold safe
        rw [h3]
        exact hs h (by omega) h2
    | succ d ih =>
      intro i hi hs
      have hsr := snk_rng (c := c) (P := P) hR (B 25 i) (nly B c)
      have hnl := nly_i hR c
      apply hX
      unfold w_m_isSafe_B0
      (intro a ea _ _; have ea : a = M 12 39 := ea)
      rw [m_houses hM] at ea
      refine ⟨by omega, fun h => absurd h (by omega), fun _ => ⟨by omega, ?_⟩⟩
      (intro y ey _ _; have ey : y = M 83 i := ey)
      rw [m_hcol hM] at ey
      refine ⟨hc, fun h => ih (i + 1) (by omega) (fun j hj hjc => ?_), fun h => ?_⟩
      · by_cases e : j = i
        · subst e; exact absurd (ey.trans hjc) h
        · exact hs j (by omega) hjc
      · have hic : B 24 i = c := ey.symm.trans h
        refine m_sinkOf_ok hM hR (by omega) (by omega) hic hp ?_
        show ∀ a15 : Int, a15 = M 64 23 → 0 ≤ a15 → a15 ≤ 999 → _
        (intro mk emk _ _; have emk : mk = M 64 23 := emk)
        rw [m_rule hM] at emk
        rw [emk]
        refine ⟨by omega, fun hl => ih (i + 1) (by omega) (fun j hj hjc => ?_), fun hl => k0 (fun z => ?_)⟩
        · by_cases e : j = i
          · subst e; exact hl
          · exact hs j (by omega) hjc
        · have h1 := wd_le (B := B) c (nHo B) i (by omega) hic
          have h2 := snk_mono hR (c := c) (P := P) h1 (nly B c)
          unfold safe at z
          omega
  exact key (nHo B) 0 (by omega) (fun h hh => absurd hh (by omega))
/-- the column stands under so much more draining, so much less looseness -/
def stn (B : Mem) (c mo le : Int) : Prop := ∀ q : Nat, q < nSh B → ∀ p : Int, 0 ≤ p → p < many B c (nly B c) → kept B c p → safe B c (fin B c q (dig B c p) mo le)
end WORKS
