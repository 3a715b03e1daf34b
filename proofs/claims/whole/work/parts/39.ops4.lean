-- about, fault, rule
theorem both_about {M B : Mem} {c l w : Int} {Q : Int → Int → Prop} (I : Inv M B) (hc : R32 c) (hl : R32 l) (hw : R32 w) (k : ∀ r : Int, Q r r) : w_S_about M c l w (fun r => w_m_about M c l w (fun r2 => Q r r2)) := by
  obtain ⟨hC, hM, hR, hW, hS, hCC, hCM⟩ := id I
  have hly := b_layers hR c
  unfold w_S_about
  refine hasLayer_ok hC hc hl (fun h => ?_) (fun c0 c6 l0 l1 => ?_)
  · (first | refine t0n ?_ | refine t0e ?_)
    unfold w_m_about
    refine m_isLayer_ok hM hc hl (fun _ => ?_) (fun a b c d => absurd ⟨a, b, c, d⟩ h)
    (first | refine t0n ?_ | refine t0e ?_)
    exact k _
  (first | refine t1n ?_ | refine t1e ?_)
  obtain ⟨n, rfl⟩ : ∃ n : Nat, l = n := ⟨l.toNat, by omega⟩
  have mm : ∀ (r : Int), ((w < 0 ∨ 5 < w) → r = -1002) → (w = 0 → r = B 3 (c * 6 + n)) → (w = 1 → r = B 4 (c * 6 + n)) → (w = 2 → r = B 5 (c * 6 + n)) → (w = 3 → r = dep B c n) → (w = 4 → wet B c n → r = 1) → (w = 4 → ¬ wet B c n → r = 0) → (w = 5 → r = hld B c n) → w_m_about M c n w (fun r2 => Q r r2) := by
    intro r e1 e2 e3 e4 e5 e6 e6' e7
    unfold w_m_about
    refine m_isLayer_ok hM hc hl (fun z => absurd ⟨c0, c6, l0, l1⟩ z) (fun _ _ _ _ => ?_)
    (first | refine t1n ?_ | refine t1e ?_)
    refine ⟨hw, fun z => ?_, fun z => ?_, fun z => ?_, fun z => ?_, fun z => ?_, fun z => ?_, fun z => ?_⟩
    · rw [← e1 z]; exact k _
    · refine ⟨by omega, ?_⟩
      (intro a ea _ _; have ea : a = M 56 (6 * c + n) := ea)
      rw [ea, m_kind hM, Int.mul_comm 6 c, ← e2 z]; exact k _
    · refine ⟨by omega, ?_⟩
      (intro a ea _ _; have ea : a = M 57 (6 * c + n) := ea)
      rw [ea, m_thick hM, Int.mul_comm 6 c, ← e3 z]; exact k _
    · refine ⟨by omega, ?_⟩
      (intro a ea _ _; have ea : a = M 58 (6 * c + n) := ea)
      rw [ea, m_values hM, Int.mul_comm 6 c, ← e4 z]; exact k _
    · refine m_depth_ok hM c0 c6 n (by omega) ?_
      rw [← e5 z]; exact k _
    · refine m_isWet_ok hM hR c0 c6 n (by omega) (fun hq => ?_) (fun hq => ?_)
      · (first | refine t1n ?_ | refine t1e ?_)
        rw [← e6 z hq]; exact k _
      · (first | refine t0n ?_ | refine t0e ?_)
        rw [← e6' z hq]; exact k _
    · refine m_hold_ok hM hR c0 c6 n (by omega) ?_
      rw [← e7 z]; exact k _
  refine ⟨hw, fun z => ?_, fun z => ?_, fun z => ?_, fun z => ?_, fun z => ?_, fun z => ?_, fun z => ?_⟩
  · exact mm _ (fun _ => rfl) (by omega) (by omega) (by omega) (by omega) (by omega) (by omega) (by omega)
  · refine ⟨by omega, ?_⟩
    (intro a ea _ _; have ea : a = M 22 (c * 6 + n) := ea)
    rw [c_kind hC] at ea
    exact mm _ (by omega) (fun _ => ea) (by omega) (by omega) (by omega) (by omega) (by omega) (by omega)
  · refine ⟨by omega, ?_⟩
    (intro a ea _ _; have ea : a = M 23 (c * 6 + n) := ea)
    rw [c_thick hC] at ea
    exact mm _ (by omega) (by omega) (fun _ => ea) (by omega) (by omega) (by omega) (by omega) (by omega)
  · refine ⟨by omega, ?_⟩
    (intro a ea _ _; have ea : a = M 24 (c * 6 + n) := ea)
    rw [c_values hC] at ea
    exact mm _ (by omega) (by omega) (by omega) (fun _ => ea) (by omega) (by omega) (by omega) (by omega)
  · refine depthOf_ok hC c0 c6 n (by omega) ?_
    exact mm _ (by omega) (by omega) (by omega) (by omega) (fun _ => rfl) (by omega) (by omega) (by omega)
  · refine isWet_ok hC hR c0 c6 n (by omega) (fun hq => ?_) (fun hq => ?_)
    · (first | refine t1n ?_ | refine t1e ?_)
      exact mm _ (by omega) (by omega) (by omega) (by omega) (by omega) (fun _ _ => rfl) (fun _ z => absurd hq z) (by omega)
    · (first | refine t0n ?_ | refine t0e ?_)
      exact mm _ (by omega) (by omega) (by omega) (by omega) (by omega) (fun _ z => absurd z hq) (fun _ _ => rfl) (by omega)
  · refine holdOf_ok hC hR c0 c6 n (by omega) ?_
    exact mm _ (by omega) (by omega) (by omega) (by omega) (by omega) (by omega) (by omega) (fun _ => rfl)
theorem both_fault {M B : Mem} {Q : Int → Int → Prop} (I : Inv M B) (k : ∀ r : Int, Q r r) : w_S_fault M (fun r => w_m_fault M (fun r2 => Q r r2)) := by
  obtain ⟨hC, hM, -⟩ := id I
  unfold w_S_fault
  (intro a ea _ _; have ea : a = M 11 3 := ea)
  unfold w_m_fault
  (intro b eb _ _; have eb : b = M 12 61 := eb)
  rw [ea, eb, c_flaw hC, m_flaw hM]
  exact k _
theorem both_rule {M B : Mem} {w : Int} {Q : Int → Int → Prop} (I : Inv M B) (hw : R32 w) (k : ∀ r : Int, Q r r) : w_S_rule M w (fun r => w_m_rule M w (fun r2 => Q r r2)) := by
  obtain ⟨hC, hM, -⟩ := id I
  unfold w_S_rule
  refine S_beyond_ok hw (by decide) (by decide) (fun h => ?_) (fun h1 h2 => ?_)
  · (first | refine t1n ?_ | refine t1e ?_)
    unfold w_m_rule
    refine ⟨hw, m_in_ok hw (by decide) (by decide) (fun _ => ?_) (fun a b => absurd h (by omega))⟩
    (first | refine t0n ?_ | refine t0e ?_)
    exact k _
  · (first | refine t0n ?_ | refine t0e ?_)
    refine ⟨by omega, ?_⟩
    (intro a ea _ _; have ea : a = M 30 w := ea)
    unfold w_m_rule
    refine ⟨hw, m_in_ok hw (by decide) (by decide) (fun h => absurd h (by omega)) (fun _ _ => ?_)⟩
    (first | refine t1n ?_ | refine t1e ?_)
    refine ⟨by omega, ?_⟩
    (intro b eb _ _; have eb : b = M 64 w := eb)
    rw [ea, eb, c_rule hC, m_rule hM]
    exact k _
-- beat
abbrev btB (B : Mem) (q x : Int) : Mem := mset (mset B 9 (q * 30 + B 8 q) x) 8 q (B 8 q + 1)
theorem both_beat {M B : Mem} {q x : Int} {Q : Int → Int → Mem → Prop} (I : Inv M B) (hq : R32 q) (hx : R32 x) (k : ∀ (r : Int) (N B' : Mem), Inv N B' → Q r r N) : w_S_beat M q x (fun r M1 => w_m_beat M1 q x (fun r2 M2 => Q r r2 M2)) := by
  obtain ⟨hC, hM, hR, hW, hS, hCC, hCM⟩ := id I
  have hsh := b_shakes hR 0
  have hbe := b_beats hR q
  unfold w_S_beat
  refine hasShake_ok hC hq (fun h => ?_) (fun q0 q1 => ?_)
  · (first | refine t0n ?_ | refine t0e ?_)
    unfold w_m_beat
    refine m_isShake_ok hM hq (fun _ => ?_) (fun a b => absurd ⟨a, b⟩ h)
    (first | refine t0n ?_ | refine t0e ?_)
    exact k _ _ _ I
  (first | refine t1n ?_ | refine t1e ?_)
  refine S_beyond_ok hx (by decide) (by decide) (fun h => ?_) (fun x0 x1 => ?_)
  · (first | refine t1n ?_ | refine t1e ?_)
    unfold w_m_beat
    refine m_isShake_ok hM hq (fun z => absurd ⟨q0, q1⟩ z) (fun _ _ => ?_)
    (first | refine t1n ?_ | refine t1e ?_)
    refine ⟨hx, m_in_ok hx (by decide) (by decide) (fun _ => ?_) (fun a b => absurd h (by omega))⟩
    (first | refine t0n ?_ | refine t0e ?_)
    exact k _ _ _ I
  (first | refine t0n ?_ | refine t0e ?_)
  refine ⟨by omega, ?_⟩
  (intro a ea _ _; have ea : a = M 28 q := ea)
  rw [c_beats hC] at ea
  refine ⟨fun h => ?_, fun h => ?_⟩
  · refine forget_ok ?_
    unfold w_Shakes_addBeat
    refine ⟨by omega, ?_⟩
    (intro b eb _ _; have eb : b = M 28 q := eb)
    rw [c_beats hC] at eb
    subst eb
    refine And.intro ⟨by omega, by omega⟩ ?_
    (intro N1 eN1; subst eN1)
    refine ⟨by omega, ?_⟩
    (intro d ed _ _; have ed : d = M 28 q := ed)
    rw [c_beats hC] at ed
    subst ed
    refine And.intro ⟨by omega, by omega⟩ ?_
    (intro N2 eN2; subst eN2)
    refine ⟨by omega, ?_⟩
    intro f ef _ _
    have ef : f = B 8 q + 1 := ef.trans ms_s
    have hk : sme kM M (mset (mset (mset M 5 9 0) 29 (q * 30 + B 8 q) x) 28 q (B 8 q + 1)) := ((sme.rf.s (by decide)).s (by decide)).s (by decide)
    have hWb : WF (btB B q x) := by
      obtain ⟨h1, h2, h3, h4, h5, h6, h7, h8, h9, h10, h11, h12, h13, h14⟩ := hW
      refine ⟨h1, h2, h3, h4, h5, h6, h7, h8, h9, h10, h11, h12, fun q' q0' q1' => ?_, h14⟩
      have q0' : B 20 0 ≤ q' := q0'
      show (mset B 8 q (B 8 q + 1)) 8 q' = 0
      rw [ms_n (by omega)]
      exact h13 q' q0' q1'
    have H : Half (mset (mset (mset M 5 9 0) 29 (q * 30 + B 8 q) x) 28 q (B 8 q + 1)) B (btB B q x) := ⟨((hC.skipF 5 (by decide)).setA 9 29 (by decide)).setA 8 28 (by decide), hM.km hk, (hR.set 9 x0 x1).set 8 (show (0 : Int) ≤ _ by omega) (show _ ≤ (30 : Int) by omega), hWb, hS, CC.none rfl⟩
    have hM1 := hM.km hk
    unfold w_m_beat
    refine m_isShake_ok hM1 hq (fun z => absurd ⟨q0, q1⟩ z) (fun _ _ => ?_)
    (first | refine t1n ?_ | refine t1e ?_)
    refine ⟨hx, m_in_ok hx (by decide) (by decide) (fun z => absurd z (by omega)) (fun _ _ => ?_)⟩
    (first | refine t1n ?_ | refine t1e ?_)
    refine ⟨by omega, ?_⟩
    (intro a' ea' _ _; have ea' : a' = M 62 q := ea')
    rw [m_beats hM] at ea'
    refine ⟨fun _ => ⟨by omega, ?_⟩, fun z => absurd z (by omega)⟩
    (intro b' eb' _ _; have eb' : b' = M 62 q := eb')
    rw [m_beats hM] at eb'
    subst eb'
    refine And.intro ⟨by omega, by omega⟩ ?_
    (intro O1 eO1; subst eO1)
    refine ⟨by omega, ?_⟩
    (intro d' ed' _ _; have ed' : d' = M 62 q := ed')
    rw [m_beats hM] at ed'
    subst ed'
    refine And.intro ⟨by omega, by omega⟩ ?_
    (intro O2 eO2; subst eO2)
    refine m_change_B (fun N hN K f0 fo => ⟨by omega, ?_⟩)
    (intro f' ef' _ _; have ef' : f' = N 62 q := ef')
    have h5 := hN _ ((hM1.setA 9 63 (i := 30 * q + B 8 q) (z := x) (by decide)).setA 8 62 (i := q) (z := B 8 q + 1) (by decide))
    rw [m_beats h5] at ef'
    have ef' : f' = B 8 q + 1 := ef'.trans ms_s
    rw [ef, ef']
    rw [Int.mul_comm 30 q] at h5 K
    exact k _ _ _ (H.inv (((sme.rf.s (by decide)).s (by decide)).trans K) h5 (CM.none f0))
  · unfold w_m_beat
    refine m_isShake_ok hM hq (fun z => absurd ⟨q0, q1⟩ z) (fun _ _ => ?_)
    (first | refine t1n ?_ | refine t1e ?_)
    refine ⟨hx, m_in_ok hx (by decide) (by decide) (fun z => absurd z (by omega)) (fun _ _ => ?_)⟩
    (first | refine t1n ?_ | refine t1e ?_)
    refine ⟨by omega, ?_⟩
    (intro a' ea' _ _; have ea' : a' = M 62 q := ea')
    rw [m_beats hM] at ea'
    exact ⟨fun z => absurd (show a' = 30 by omega) z, fun _ => k _ _ _ I⟩
-- loose
abbrev lsB (B : Mem) (a v w : Int) : Mem := mset (mset (mset B 6 (a * 3 + B 5 a) v) 7 (a * 3 + B 5 a) w) 5 a (B 5 a + 1)
def hasV (B : Mem) (a v : Int) : Prop := ∃ j : Int, 0 ≤ j ∧ j < B 5 a ∧ B 6 (a * 3 + j) = v
theorem hasValue_ok {M B : Mem} {c l v : Int} {Q : Int → Prop} (hC : CB M B) (hR : RB B) (ha : 0 ≤ c * 6 + l ∧ c * 6 + l < 36) (hv : R32 v) (k1 : hasV B (c * 6 + l) v → Q 1) (k0 : ¬ hasV B (c * 6 + l) v → Q 0) : w_Ground_hasValue M c l v Q := by
  have hn := b_values hR (c * 6 + l)
  unfold w_Ground_hasValue w_Ground_hasValue_L0
  intro X hX
  have key : ∀ d i : Nat, i + d = 3 → (i : Int) ≤ B 5 (c * 6 + l) → (∀ j : Int, 0 ≤ j → j < i → B 6 ((c * 6 + l) * 3 + j) ≠ v) → X i := by
    intro d
    induction d with
    | zero =>
      intro i hi h1 h2
      apply hX
      unfold w_Ground_hasValue_B0
      refine ⟨ha, ?_⟩
      (intro a ea _ _; have ea : a = M 24 (c * 6 + l) := ea)
      rw [c_values hC] at ea
      refine ⟨by omega, fun _ => k0 (fun ⟨j, j0, j1, e⟩ => h2 j j0 (by omega) e), fun z => absurd z (by omega)⟩
    | succ d ih =>
      intro i hi h1 h2
      apply hX
      unfold w_Ground_hasValue_B0
      refine ⟨ha, ?_⟩
      (intro a ea _ _; have ea : a = M 24 (c * 6 + l) := ea)
      rw [c_values hC] at ea
      refine ⟨by omega, fun z => k0 (fun ⟨j, j0, j1, e⟩ => h2 j j0 (by omega) e), fun z => ⟨by omega, ?_⟩⟩
      (intro b eb _ _; have eb : b = M 25 ((c * 6 + l) * 3 + i) := eb)
      rw [c_value hC] at eb
      refine ⟨hv, fun e => ?_, fun e => k1 ⟨i, by omega, by omega, by omega⟩⟩
      refine ih (i + 1) (by omega) (by omega) (fun j j0 j1 => ?_)
      by_cases ej : j = i
      · rw [ej, ← eb]; exact e
      · exact h2 j j0 (by omega)
  exact key 3 0 (by omega) (by omega) (fun j a b => absurd b (by omega))
theorem m_loose_L {M B : Mem} {a v w : Int} {Q : Int → Mem → Prop} (hM : MB M B) (hR : RB B) (ha : 0 ≤ a ∧ a < 36) (hv : 0 ≤ v ∧ v ≤ 100) (hw : 1 ≤ w ∧ w ≤ 9) (kN : hasV B a v → Q (-1003) M) (kF : ¬ hasV B a v → B 5 a = 3 → Q (-1004) M)
    (kk : ¬ hasV B a v → B 5 a < 3 → ∀ N, MB N (lsB B a v w) → sme kC M N → (∀ c : Int, 0 ≤ c → c < 6 → N 66 c = 0) → Q (B 5 a + 1) N) : w_m_loose_L0 Q v w a M 0 := by
  have hn := b_values hR a
  unfold w_m_loose_L0
  intro X hX
  have leave : ¬ hasV B a v → (0 ≤ a ∧ a < 36) ∧ (∀ a8 : Int, a8 = M 58 a → 0 ≤ a8 → a8 ≤ 3 → (¬ (a8 = 3) → (0 ≤ a ∧ a < 36) ∧ (∀ a14 : Int, a14 = M 58 a → 0 ≤ a14 → a14 ≤ 3 → ((0 ≤ (3 * a) + a14 ∧ (3 * a) + a14 < 108) ∧ (0 ≤ v ∧ v ≤ 100)) ∧ (∀ M17 : Mem, M17 = mset M 59 ((3 * a) + a14) v → (0 ≤ a ∧ a < 36) ∧ (∀ a19 : Int, a19 = M17 58 a → 0 ≤ a19 → a19 ≤ 3 → ((0 ≤ (3 * a) + a19 ∧ (3 * a) + a19 < 108) ∧ (0 ≤ w ∧ w ≤ 9)) ∧ (∀ M22 : Mem, M22 = mset M17 60 ((3 * a) + a19) w → (0 ≤ a ∧ a < 36) ∧ (∀ a24 : Int, a24 = M22 58 a → 0 ≤ a24 → a24 ≤ 3 → ((0 ≤ a ∧ a < 36) ∧ (0 ≤ a24 + 1 ∧ a24 + 1 ≤ 3)) ∧ (∀ M27 : Mem, M27 = mset M22 58 a (a24 + 1) → w_m_change M27 (fun M29 => (0 ≤ a ∧ a < 36) ∧ (∀ a31 : Int, a31 = M29 58 a → 0 ≤ a31 → a31 ≤ 3 → Q a31 M29))))))))) ∧ (a8 = 3 → Q (-1004) M)) := by
    intro hv'
    refine ⟨ha, ?_⟩
    (intro b eb _ _; have eb : b = M 58 a := eb)
    rw [m_values hM] at eb
    refine ⟨fun h => ⟨ha, ?_⟩, fun h => kF hv' (by omega)⟩
    (intro d ed _ _; have ed : d = M 58 a := ed)
    rw [m_values hM] at ed
    subst ed
    refine And.intro ⟨by omega, by omega⟩ ?_
    (intro N1 eN1; subst eN1)
    refine ⟨ha, ?_⟩
    (intro d2 ed2 _ _; have ed2 : d2 = M 58 a := ed2)
    rw [m_values hM] at ed2
    subst ed2
    refine And.intro ⟨by omega, by omega⟩ ?_
    (intro N2 eN2; subst eN2)
    refine ⟨ha, ?_⟩
    (intro d3 ed3 _ _; have ed3 : d3 = M 58 a := ed3)
    rw [m_values hM] at ed3
    subst ed3
    refine And.intro ⟨by omega, by omega⟩ ?_
    (intro N3 eN3; subst eN3)
    refine m_change_B (fun N hN K f0 fo => ⟨ha, ?_⟩)
    (intro f ef _ _; have ef : f = N 58 a := ef)
    have h5 := hN _ (((hM.setA 6 59 (i := 3 * a + B 5 a) (z := v) (by decide)).setA 7 60 (i := 3 * a + B 5 a) (z := w) (by decide)).setA 5 58 (i := a) (z := B 5 a + 1) (by decide))
    rw [m_values h5] at ef
    have ef : f = B 5 a + 1 := ef.trans ms_s
    rw [ef]
    rw [Int.mul_comm 3 a] at h5
    exact kk hv' (by omega) N h5 ((((sme.rf.s (by decide)).s (by decide)).s (by decide)).trans K) f0
  have key : ∀ d i : Nat, i + d = 3 → (i : Int) ≤ B 5 a → (∀ j : Int, 0 ≤ j → j < i → B 6 (a * 3 + j) ≠ v) → X i := by
    intro d
    induction d with
    | zero =>
      intro i hi h1 h2
      apply hX
      unfold w_m_loose_B0
      refine ⟨ha, ?_⟩
      (intro b eb _ _; have eb : b = M 58 a := eb)
      rw [m_values hM] at eb
      exact ⟨by omega, fun _ => leave (fun ⟨j, j0, j1, e⟩ => h2 j j0 (by omega) e), fun z => absurd z (by omega)⟩
    | succ d ih =>
      intro i hi h1 h2
      apply hX
      unfold w_m_loose_B0
      refine ⟨ha, ?_⟩
      (intro b eb _ _; have eb : b = M 58 a := eb)
      rw [m_values hM] at eb
      refine ⟨by omega, fun _ => leave (fun ⟨j, j0, j1, e⟩ => h2 j j0 (by omega) e), fun z => ⟨by omega, ?_⟩⟩
      (intro d9 ed9 _ _; have ed9 : d9 = M 59 (3 * a + i) := ed9)
      rw [m_value hM, Int.mul_comm 3 a] at ed9
      refine ⟨by omega, fun e => ?_, fun e => kN ⟨i, by omega, by omega, by omega⟩⟩
      refine ih (i + 1) (by omega) (by omega) (fun j j0 j1 => ?_)
      by_cases ej : j = i
      · rw [ej, ← ed9]; exact e
      · exact h2 j j0 (by omega)
  exact key 3 0 (by omega) (by omega) (fun j a b => absurd b (by omega))
theorem both_loose {M B : Mem} {c l v w : Int} {Q : Int → Int → Mem → Prop} (I : Inv M B) (hc : R32 c) (hl : R32 l) (hv : R32 v) (hw : R32 w) (k : ∀ (r : Int) (N B' : Mem), Inv N B' → Q r r N) : w_S_loose M c l v w (fun r M1 => w_m_loose M1 c l v w (fun r2 M2 => Q r r2 M2)) := by
  obtain ⟨hC, hM, hR, hW, hS, hCC, hCM⟩ := id I
  have hly := b_layers hR c
  unfold w_S_loose
  refine hasLayer_ok hC hc hl (fun h => ?_) (fun c0 c6 l0 l1 => ?_)
  · (first | refine t0n ?_ | refine t0e ?_)
    unfold w_m_loose
    refine m_isLayer_ok hM hc hl (fun _ => ?_) (fun a b c d => absurd ⟨a, b, c, d⟩ h)
    (first | refine t0n ?_ | refine t0e ?_)
    exact k _ _ _ I
  (first | refine t1n ?_ | refine t1e ?_)
  refine S_beyond_ok hv (by decide) (by decide) (fun h => ?_) (fun v0 v1 => ?_)
  · (first | refine t1n ?_ | refine t1e ?_)
    unfold w_m_loose
    refine m_isLayer_ok hM hc hl (fun z => absurd ⟨c0, c6, l0, l1⟩ z) (fun _ _ _ _ => ?_)
    (first | refine t1n ?_ | refine t1e ?_)
    refine ⟨hv, m_in_ok hv (by decide) (by decide) (fun _ => ?_) (fun a b => absurd h (by omega))⟩
    (first | refine t0n ?_ | refine t0e ?_)
    exact k _ _ _ I
  (first | refine t0n ?_ | refine t0e ?_)
  refine S_beyond_ok hw (by decide) (by decide) (fun h => ?_) (fun w0 w1 => ?_)
  · (first | refine t1n ?_ | refine t1e ?_)
    unfold w_m_loose
    refine m_isLayer_ok hM hc hl (fun z => absurd ⟨c0, c6, l0, l1⟩ z) (fun _ _ _ _ => ?_)
    (first | refine t1n ?_ | refine t1e ?_)
    refine ⟨hv, m_in_ok hv (by decide) (by decide) (fun z => absurd z (by omega)) (fun _ _ => ?_)⟩
    (first | refine t1n ?_ | refine t1e ?_)
    refine ⟨hw, m_in_ok hw (by decide) (by decide) (fun _ => ?_) (fun a b => absurd h (by omega))⟩
    (first | refine t0n ?_ | refine t0e ?_)
    exact k _ _ _ I
  (first | refine t0n ?_ | refine t0e ?_)
  have mm : ∀ (M1 : Mem) (Q' : Int → Mem → Prop), MB M1 B → w_m_loose_L0 Q' v w (6 * c + l) M1 0 → w_m_loose M1 c l v w Q' := by
    intro M1 Q' hM1 h9
    unfold w_m_loose
    refine m_isLayer_ok hM1 hc hl (fun z => absurd ⟨c0, c6, l0, l1⟩ z) (fun _ _ _ _ => ?_)
    (first | refine t1n ?_ | refine t1e ?_)
    refine ⟨hv, m_in_ok hv (by decide) (by decide) (fun z => absurd z (by omega)) (fun _ _ => ?_)⟩
    (first | refine t1n ?_ | refine t1e ?_)
    refine ⟨hw, m_in_ok hw (by decide) (by decide) (fun z => absurd z (by omega)) (fun _ _ => ?_)⟩
    (first | refine t1n ?_ | refine t1e ?_)
    exact h9
  have hnv := b_values hR (c * 6 + l)
  refine hasValue_ok hC hR (by omega) hv (fun h => ?_) (fun h => ?_)
  · (first | refine t1n ?_ | refine t1e ?_)
    refine mm _ _ hM ?_
    rw [Int.mul_comm 6 c]
    exact m_loose_L hM hR (by omega) ⟨v0, v1⟩ ⟨w0, w1⟩ (fun _ => k _ _ _ I) (fun z => absurd h z) (fun z => absurd h z)
  (first | refine t0n ?_ | refine t0e ?_)
  refine ⟨by omega, ?_⟩
  (intro a ea _ _; have ea : a = M 24 (c * 6 + l) := ea)
  rw [c_values hC] at ea
  refine ⟨fun h3 => ?_, fun h3 => ?_⟩
  · refine forget_ok ?_
    have hv1 : (mset M 5 9 0) 24 (c * 6 + l) = B 5 (c * 6 + l) := by
      show M 24 (c * 6 + l) = _
      rw [c_values hC]
    refine addValue_ok (by omega) (by rw [hv1]; omega) ⟨v0, v1⟩ (by omega) ?_
    rw [hv1]
    have hk : sme kM M (mset (mset (mset (mset M 5 9 0) 25 ((c * 6 + l) * 3 + B 5 (c * 6 + l)) v) 26 ((c * 6 + l) * 3 + B 5 (c * 6 + l)) w) 24 (c * 6 + l) (B 5 (c * 6 + l) + 1)) := (((sme.rf.s (by decide)).s (by decide)).s (by decide)).s (by decide)
    have hW' : WF (lsB B (c * 6 + l) v w) := by
      obtain ⟨h1, h2, h3, h4, h5, h6, h7, h8, h9, h10, h11, h12, h13, h14, h15⟩ := hW
      refine ⟨fun d e d0 d6 k0 hk => ?_, h2, h3, h4, h5, h6, h7, h8, h9, h10, fun d e d0 d6 hk k6 => ?_, h12, h13, fun a j a0 a1 j0 j1 => ?_, h15⟩
      · show 1 ≤ (mset B 5 (c * 6 + l) (B 5 (c * 6 + l) + 1)) 5 (d * 6 + e)
        by_cases e1 : d * 6 + e = c * 6 + l
        · rw [e1, ms_s]; omega
        · rw [ms_n e1]; exact h1 d e d0 d6 k0 hk
      · show (mset B 5 (c * 6 + l) (B 5 (c * 6 + l) + 1)) 5 (d * 6 + e) = 0
        have hk : B 2 d ≤ e := hk
        have e1 : ¬ d * 6 + e = c * 6 + l := by
          intro z
          have : d = c := by have := b_layers hR d; omega
          subst this
          omega
        rw [ms_n e1]; exact h11 d e d0 d6 hk k6
      · show 1 ≤ (mset B 7 ((c * 6 + l) * 3 + B 5 (c * 6 + l)) w) 7 (a * 3 + j)
        have j1 : j < (mset B 5 (c * 6 + l) (B 5 (c * 6 + l) + 1)) 5 a := j1
        by_cases e : a * 3 + j = (c * 6 + l) * 3 + B 5 (c * 6 + l)
        · rw [e, ms_s]; exact w0
        · rw [ms_n e]
          by_cases e2 : a = c * 6 + l
          · rw [e2, ms_s] at j1
            rw [e2] at e ⊢
            exact h14 _ j (by omega) (by omega) j0 (by omega)
          · rw [ms_n e2] at j1; exact h14 a j a0 a1 j0 j1
    have H : Half (mset (mset (mset (mset M 5 9 0) 25 ((c * 6 + l) * 3 + B 5 (c * 6 + l)) v) 26 ((c * 6 + l) * 3 + B 5 (c * 6 + l)) w) 24 (c * 6 + l) (B 5 (c * 6 + l) + 1)) B (lsB B (c * 6 + l) v w) := ⟨(((hC.skipF 5 (by decide)).setA 6 25 (by decide)).setA 7 26 (by decide)).setA 5 24 (by decide), hM.km hk, ((hR.set 6 v0 v1).set 7 (show (0 : Int) ≤ w by omega) w1).set 5 (show (0 : Int) ≤ _ by omega) (show _ ≤ (3 : Int) by omega), hW', hS, CC.none rfl⟩
    refine mm _ _ (hM.km hk) ?_
    rw [Int.mul_comm 6 c]
    exact m_loose_L (hM.km hk) hR (by omega) ⟨v0, v1⟩ ⟨w0, w1⟩ (fun z => absurd z h) (fun _ z => absurd z (by omega)) (fun _ _ N hN K f0 => k _ _ _ (H.inv K hN (CM.none f0)))
  · refine mm _ _ hM ?_
    rw [Int.mul_comm 6 c]
    exact m_loose_L hM hR (by omega) ⟨v0, v1⟩ ⟨w0, w1⟩ (fun z => absurd z h) (fun _ _ => k _ _ _ I) (fun _ z => absurd z (by omega))
