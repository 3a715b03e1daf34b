/-! ===== leaves: tests of numbers ===== -/
theorem S_beyond_ok {M : Mem} {x lo hi : Int} {Q : Int → Prop} (hx : R32 x) (hl : R32 lo) (hh : R32 hi) (k1 : x < lo ∨ hi < x → Q 1) (k0 : lo ≤ x → x ≤ hi → Q 0) : w_S_beyond M x lo hi Q := by
  unfold w_S_beyond
  exact ⟨hx, hl, fun h => k1 (Or.inl h), fun h => ⟨hx, hh, fun h2 => k0 (by omega) h2, fun h2 => k1 (by omega)⟩⟩
theorem hasColumn_ok {M : Mem} {c : Int} {Q : Int → Prop} (hc : R32 c) (k0 : ¬ (0 ≤ c ∧ c < 6) → Q 0) (k1 : 0 ≤ c → c < 6 → Q 1) : w_Ground_hasColumn M c Q := by
  unfold w_Ground_hasColumn
  exact ⟨hc, fun h => k0 (by omega), fun h => ⟨hc, fun h2 => k0 (by omega), fun h2 => k1 (by omega) (by omega)⟩⟩
theorem hasLayer_ok {M B : Mem} {c k : Int} {Q : Int → Prop} (hC : CB M B) (hc : R32 c) (hk : R32 k) (k0 : ¬ (0 ≤ c ∧ c < 6 ∧ 0 ≤ k ∧ k < B 2 c) → Q 0) (k1 : 0 ≤ c → c < 6 → 0 ≤ k → k < B 2 c → Q 1) : w_Ground_hasLayer M c k Q := by
  unfold w_Ground_hasLayer
  refine hasColumn_ok hc (fun h => ?_) (fun h1 h2 => ?_)
  · (first | refine t0n ?_ | refine t0e ?_)
    exact k0 (by omega)
  · (first | refine t1n ?_ | refine t1e ?_)
    refine ⟨hk, fun h => k0 (by omega), fun h => ⟨by omega, fun a ea a1 a2 => ⟨hk, fun h3 => k0 ?_, fun h3 => k1 h1 h2 (by omega) ?_⟩⟩⟩
    · rw [c_layers hC] at ea; omega
    · rw [c_layers hC] at ea; omega
theorem hasShake_ok {M B : Mem} {q : Int} {Q : Int → Prop} (hC : CB M B) (hq : R32 q) (k0 : ¬ (0 ≤ q ∧ q < B 20 0) → Q 0) (k1 : 0 ≤ q → q < B 20 0 → Q 1) : w_Shakes_hasShake M q Q := by
  unfold w_Shakes_hasShake
  refine ⟨hq, fun h => k0 (by omega), fun h => fun a ea a1 a2 => ⟨hq, fun h3 => k0 ?_, fun h3 => k1 (by omega) ?_⟩⟩
  · rw [c_shakes hC] at ea; omega
  · rw [c_shakes hC] at ea; omega
theorem hasWord_ok {M B : Mem} {q : Int} {Q : Int → Prop} (hC : CB M B) (hq : R32 q) (k0 : ¬ (0 ≤ q ∧ q < B 11 0) → Q 0) (k1 : 0 ≤ q → q < B 11 0 → Q 1) : w_Words_hasWord M q Q := by
  unfold w_Words_hasWord
  refine ⟨hq, fun h => k0 (by omega), fun h => fun a ea a1 a2 => ⟨hq, fun h3 => k0 ?_, fun h3 => k1 (by omega) ?_⟩⟩
  · rw [c_words hC] at ea; omega
  · rw [c_words hC] at ea; omega
theorem hasHouse_ok {M B : Mem} {q : Int} {Q : Int → Prop} (hC : CB M B) (hq : R32 q) (k0 : ¬ (0 ≤ q ∧ q < B 23 0) → Q 0) (k1 : 0 ≤ q → q < B 23 0 → Q 1) : w_Houses_hasHouse M q Q := by
  unfold w_Houses_hasHouse
  refine ⟨hq, fun h => k0 (by omega), fun h => fun a ea a1 a2 => ⟨hq, fun h3 => k0 ?_, fun h3 => k1 (by omega) ?_⟩⟩
  · rw [c_houses hC] at ea; omega
  · rw [c_houses hC] at ea; omega
theorem hasTank_ok {M B : Mem} {q : Int} {Q : Int → Prop} (hC : CB M B) (hq : R32 q) (k0 : ¬ (0 ≤ q ∧ q < B 27 0) → Q 0) (k1 : 0 ≤ q → q < B 27 0 → Q 1) : w_Tanks_hasTank M q Q := by
  unfold w_Tanks_hasTank
  refine ⟨hq, fun h => k0 (by omega), fun h => fun a ea a1 a2 => ⟨hq, fun h3 => k0 ?_, fun h3 => k1 (by omega) ?_⟩⟩
  · rw [c_tanks hC] at ea; omega
  · rw [c_tanks hC] at ea; omega
theorem m_in_ok {M : Mem} {x lo hi : Int} {Q : Int → Prop} (hx : R32 x) (hl : R32 lo) (hh : R32 hi) (k0 : x < lo ∨ hi < x → Q 0) (k1 : lo ≤ x → x ≤ hi → Q 1) : w_m_in M x lo hi Q := by
  unfold w_m_in
  exact ⟨by omega, by omega, fun h => k0 (Or.inl h), fun h => ⟨by omega, by omega, fun h2 => k0 (Or.inr h2), fun h2 => k1 (by omega) (by omega)⟩⟩
theorem m_isColumn_ok {M : Mem} {c : Int} {Q : Int → Prop} (hc : R32 c) (k0 : ¬ (0 ≤ c ∧ c < 6) → Q 0) (k1 : 0 ≤ c → c < 6 → Q 1) : w_m_isColumn M c Q := by
  unfold w_m_isColumn
  exact ⟨hc, m_in_ok hc (by decide) (by decide) (fun h => ⟨by decide, k0 (by omega)⟩) (fun h1 h2 => ⟨by decide, k1 h1 (by omega)⟩)⟩
theorem m_isLayer_ok {M B : Mem} {c k : Int} {Q : Int → Prop} (hM : MB M B) (hc : R32 c) (hk : R32 k) (k0 : ¬ (0 ≤ c ∧ c < 6 ∧ 0 ≤ k ∧ k < B 2 c) → Q 0) (k1 : 0 ≤ c → c < 6 → 0 ≤ k → k < B 2 c → Q 1) : w_m_isLayer M c k Q := by
  unfold w_m_isLayer
  refine m_isColumn_ok hc (fun h => ?_) (fun h1 h2 => ?_)
  · (first | refine t0n ?_ | refine t0e ?_)
    exact k0 (by omega)
  · (first | refine t1n ?_ | refine t1e ?_)
    refine ⟨hk, by omega, fun a ea a1 a2 => m_in_ok hk (by decide) (by omega) (fun h => ?_) (fun h3 h4 => ?_)⟩
    · rw [m_layers hM] at ea
      (first | refine t0n ?_ | refine t0e ?_)
      exact k0 (by omega)
    · rw [m_layers hM] at ea
      (first | refine t1n ?_ | refine t1e ?_)
      exact k1 h1 h2 h3 (by omega)
theorem m_isShake_ok {M B : Mem} {q : Int} {Q : Int → Prop} (hM : MB M B) (hq : R32 q) (k0 : ¬ (0 ≤ q ∧ q < B 20 0) → Q 0) (k1 : 0 ≤ q → q < B 20 0 → Q 1) : w_m_isShake M q Q := by
  unfold w_m_isShake
  refine ⟨hq, fun a ea a1 a2 => m_in_ok hq (by decide) (by omega) (fun h => ⟨by decide, ?_⟩) (fun h3 h4 => ⟨by decide, ?_⟩)⟩
  · rw [m_shakes hM] at ea; exact k0 (by omega)
  · rw [m_shakes hM] at ea; exact k1 h3 (by omega)
theorem m_isWord_ok {M B : Mem} {q : Int} {Q : Int → Prop} (hM : MB M B) (hq : R32 q) (k0 : ¬ (0 ≤ q ∧ q < B 11 0) → Q 0) (k1 : 0 ≤ q → q < B 11 0 → Q 1) : w_m_isWord M q Q := by
  unfold w_m_isWord
  refine ⟨hq, fun a ea a1 a2 => m_in_ok hq (by decide) (by omega) (fun h => ⟨by decide, ?_⟩) (fun h3 h4 => ⟨by decide, ?_⟩)⟩
  · rw [m_words hM] at ea; exact k0 (by omega)
  · rw [m_words hM] at ea; exact k1 h3 (by omega)
theorem m_isHouse_ok {M B : Mem} {q : Int} {Q : Int → Prop} (hM : MB M B) (hq : R32 q) (k0 : ¬ (0 ≤ q ∧ q < B 23 0) → Q 0) (k1 : 0 ≤ q → q < B 23 0 → Q 1) : w_m_isHouse M q Q := by
  unfold w_m_isHouse
  refine ⟨hq, fun a ea a1 a2 => m_in_ok hq (by decide) (by omega) (fun h => ⟨by decide, ?_⟩) (fun h3 h4 => ⟨by decide, ?_⟩)⟩
  · rw [m_houses hM] at ea; exact k0 (by omega)
  · rw [m_houses hM] at ea; exact k1 h3 (by omega)
/-! ===== depth, wetness, weight ===== -/
theorem dep_rng {B : Mem} (hR : RB B) (c : Int) : ∀ k : Nat, 0 ≤ dep B c k ∧ dep B c k ≤ 60 * k
  | 0 => by simp [dep]
  | k + 1 => by
    have := dep_rng hR c k
    have := b_thick hR (c * 6 + k)
    unfold dep
    omega
theorem depthOf_ok {M B : Mem} {c : Int} {Q : Int → Prop} (hC : CB M B) (h1 : 0 ≤ c) (h2 : c < 6) (k : Nat) (hk : k ≤ 6) (kk : Q (dep B c k)) : w_Ground_depthOf M c k Q := by
  unfold w_Ground_depthOf w_Ground_depthOf_L0
  intro X hX
  have key : ∀ d i : Nat, i + d = k → X (dep B c i) i := by
    intro d
    induction d with
    | zero =>
      intro i hi
      have hi : i = k := by omega
      subst hi
      apply hX
      unfold w_Ground_depthOf_B0
      exact ⟨by omega, by omega, fun _ => kk, fun h => absurd (Int.le_refl _) h⟩
    | succ d ih =>
      intro i hi
      apply hX
      unfold w_Ground_depthOf_B0
      refine ⟨by omega, by omega, fun h => absurd h (by omega), fun _ => ⟨by omega, fun a ea _ _ => ?_⟩⟩
      have := ih (i + 1) (by omega)
      rw [ea, c_thick hC]
      exact this
  exact key k 0 (by omega)
theorem m_depth_ok {M B : Mem} {c : Int} {Q : Int → Prop} (hM : MB M B) (h1 : 0 ≤ c) (h2 : c < 6) (k : Nat) (hk : k ≤ 6) (kk : Q (dep B c k)) : w_m_depth M c k Q := by
  unfold w_m_depth w_m_depth_L0
  intro X hX
  have key : ∀ d i : Nat, i + d = k → X (dep B c i) i := by
    intro d
    induction d with
    | zero =>
      intro i hi
      have hi : i = k := by omega
      subst hi
      apply hX
      unfold w_m_depth_B0
      exact ⟨by omega, by omega, fun _ => kk, fun h => absurd (Int.le_refl _) h⟩
    | succ d ih =>
      intro i hi
      apply hX
      unfold w_m_depth_B0
      refine ⟨by omega, by omega, fun h => absurd h (by omega), fun _ => ⟨by omega, fun a ea _ _ => ?_⟩⟩
      have := ih (i + 1) (by omega)
      rw [ea, m_thick hM, Int.mul_comm 6 c]
      exact this
  exact key k 0 (by omega)
theorem isWet_ok {M B : Mem} {c : Int} {Q : Int → Prop} (hC : CB M B) (hR : RB B) (h1 : 0 ≤ c) (h2 : c < 6) (k : Nat) (hk : k ≤ 6) (k1 : wet B c k → Q 1) (k0 : ¬ wet B c k → Q 0) : w_Ground_isWet M c k Q := by
  unfold w_Ground_isWet
  have := dep_rng hR c k
  refine depthOf_ok hC h1 h2 k hk ⟨by omega, fun a ea _ _ => ?_⟩
  rw [c_water hC] at ea
  refine ⟨by omega, fun h => k0 ?_, fun h => k1 ?_⟩
  · show ¬ (_ ≤ _); omega
  · show _ ≤ _; omega
theorem m_isWet_ok {M B : Mem} {c : Int} {Q : Int → Prop} (hM : MB M B) (hR : RB B) (h1 : 0 ≤ c) (h2 : c < 6) (k : Nat) (hk : k ≤ 6) (k1 : wet B c k → Q 1) (k0 : ¬ wet B c k → Q 0) : w_m_isWet M c k Q := by
  unfold w_m_isWet
  have := dep_rng hR c k
  refine m_depth_ok hM h1 h2 k hk ⟨by omega, fun a ea _ _ => ?_⟩
  rw [m_water hM] at ea
  refine ⟨by omega, fun h => k0 ?_, fun h => k1 ?_⟩
  · show ¬ (_ ≤ _); omega
  · show _ ≤ _; omega
theorem m_heavy_ok {M B : Mem} {c : Int} {Q : Int → Prop} (hM : MB M B) (hR : RB B) (h1 : 0 ≤ c) (h2 : c < 6) (k : Nat) (hk : k ≤ 6) (kk : Q (uw B c k)) : w_m_heavy M c k Q := by
  unfold w_m_heavy
  unfold uw at kk
  refine m_isWet_ok hM hR h1 h2 k hk (fun h => ?_) (fun h => ?_)
  · (first | refine t1n ?_ | refine t1e ?_)
    intro a ea _ _
    rw [if_pos h] at kk
    rw [ea, m_rule hM]
    exact kk
  · (first | refine t0n ?_ | refine t0e ?_)
    intro a ea _ _
    rw [if_neg h] at kk
    rw [ea, m_rule hM]
    exact kk
theorem uw_rng {B : Mem} (hR : RB B) (c : Int) (k : Nat) : 0 ≤ uw B c k ∧ uw B c k ≤ 999 := by
  unfold uw
  split
  · exact b_rule hR 21
  · exact b_rule hR 20
theorem mul_rng {a b A C : Int} (ha : 0 ≤ a ∧ a ≤ A) (hb : 0 ≤ b ∧ b ≤ C) : 0 ≤ a * b ∧ a * b ≤ A * C :=
  ⟨Int.mul_nonneg ha.1 hb.1, Int.mul_le_mul ha.2 hb.2 hb.1 (Int.le_trans ha.1 ha.2)⟩
theorem abv_rng {B : Mem} (hR : RB B) (c : Int) : ∀ k : Nat, 0 ≤ abv B c k ∧ abv B c k ≤ 59940 * k
  | 0 => by simp [abv]
  | k + 1 => by
    have := abv_rng hR c k
    have := mul_rng (b_thick hR (c * 6 + k)) (uw_rng hR c k)
    unfold abv
    omega
theorem hld_rng {B : Mem} (hR : RB B) (c : Int) (k : Nat) (hk : k ≤ 6) : 1 ≤ hld B c k ∧ hld B c k ≤ 1000000 := by
  have := abv_rng hR c k
  have := mul_rng (b_thick hR (c * 6 + k)) (uw_rng hR c k)
  unfold hld
  omega
theorem holdOf_ok {M B : Mem} {c : Int} {Q : Int → Prop} (hC : CB M B) (hR : RB B) (h1 : 0 ≤ c) (h2 : c < 6) (k : Nat) (hk : k < 6) (kk : Q (hld B c k)) : w_Ground_holdOf M c k Q := by
  unfold w_Ground_holdOf w_Ground_holdOf_L0
  intro X hX
  have key : ∀ d i : Nat, i + d = k + 1 → X (dep B c i) (if i ≤ k then abv B c i else abv B c k + B 4 (c * 6 + k) * uw B c k / 2) i := by
    intro d
    induction d with
    | zero =>
      intro i hi
      have hi : i = k + 1 := by omega
      subst hi
      have := abv_rng hR c k
      have := mul_rng (b_thick hR (c * 6 + k)) (uw_rng hR c k)
      rw [if_neg (by omega)]
      apply hX
      unfold w_Ground_holdOf_B0
      exact ⟨by omega, by omega, fun _ => ⟨by omega, kk⟩, fun h => absurd (show (k : Int) < ((k + 1 : Nat) : Int) by omega) h⟩
    | succ d ih =>
      intro i hi
      have ih := ih (i + 1) (by omega)
      have hd := dep_rng hR c i
      have hm := mul_rng (b_thick hR (c * 6 + i)) (uw_rng hR c i)
      rw [if_pos (by omega)]
      apply hX
      unfold w_Ground_holdOf_B0
      refine ⟨by omega, by omega, fun h => absurd h (by omega), fun _ => ⟨by omega, fun a ea _ _ => ⟨by omega, fun w ew _ _ => ?_⟩⟩⟩
      rw [c_thick hC] at ea
      rw [c_water hC] at ew
      have fin : w_Ground_holdOf_j1 Q X c k (dep B c i) i a (abv B c i) (if i < k then a * uw B c i else a * uw B c i / 2) M := by
        unfold w_Ground_holdOf_j1
        by_cases hik : i < k
        · rw [if_pos hik]
          rw [if_pos (by omega)] at ih
          rw [ea]
          exact ih
        · have hik : i = k := by omega
          subst hik
          rw [if_neg (by omega)]
          rw [if_neg (by omega)] at ih
          rw [ea]
          exact ih
      have tail : ∀ u : Int, u = uw B c i → (R32 (i : Int)) ∧ (R32 (k : Int)) ∧ (((k : Int) ≤ i → (0 ≤ a * u ∧ a * u ≤ 2147483647) ∧ w_Ground_holdOf_j1 Q X c k (dep B c i) i a (abv B c i) (a * u / 2) M) ∧ (¬ ((k : Int) ≤ i) → w_Ground_holdOf_j1 Q X c k (dep B c i) i a (abv B c i) (a * u) M)) := by
        intro u eu
        rw [eu]
        refine ⟨by omega, by omega, fun h => ⟨by rw [ea]; omega, ?_⟩, fun h => ?_⟩
        · rw [if_neg (by omega)] at fin; exact fin
        · rw [if_pos (by omega)] at fin; exact fin
      refine ⟨by omega, fun h => ?_, fun h => ?_⟩
      · unfold w_Ground_holdOf_j0 w_Rules_unitWeight
        refine ⟨by decide, fun _ => fun r er _ _ => ?_, fun h => absurd rfl h⟩
        refine tail r ?_
        rw [er, c_rule hC]
        unfold uw
        rw [if_neg (show ¬ (_ ≤ _) by omega)]
      · unfold w_Ground_holdOf_j0 w_Rules_unitWeight
        refine ⟨by decide, fun h => absurd h (by decide), fun _ => fun r er _ _ => ?_⟩
        refine tail r ?_
        rw [er, c_rule hC]
        unfold uw
        rw [if_pos (show _ ≤ _ by omega)]
  have := key (k + 1) 0 (by omega)
  rw [if_pos (by omega)] at this
  exact this
theorem m_hold_ok {M B : Mem} {c : Int} {Q : Int → Prop} (hM : MB M B) (hR : RB B) (h1 : 0 ≤ c) (h2 : c < 6) (k : Nat) (hk : k < 6) (kk : Q (hld B c k)) : w_m_hold M c k Q := by
  unfold w_m_hold
  have hm := mul_rng (b_thick hR (c * 6 + k)) (uw_rng hR c k)
  refine ⟨by omega, fun a ea _ _ => m_heavy_ok hM hR h1 h2 k (by omega) ?_⟩
  rw [m_thick hM, Int.mul_comm 6 c] at ea
  rw [ea]
  refine ⟨by omega, ?_⟩
  unfold w_m_hold_L0
  intro X hX
  have key : ∀ d i : Nat, i + d = k → X (B 4 (c * 6 + k) * uw B c k / 2 + abv B c i) i := by
    intro d
    induction d with
    | zero =>
      intro i hi
      have hi : i = k := by omega
      subst hi
      have := abv_rng hR c i
      apply hX
      unfold w_m_hold_B0
      refine ⟨by omega, by omega, fun _ => ⟨by omega, fun h => ?_, fun h => ?_⟩, fun h => absurd (Int.le_refl _) h⟩
      · have e : hld B c i = B 4 (c * 6 + i) * uw B c i / 2 + abv B c i := by unfold hld; omega
        rw [← e]; exact kk
      · have e : hld B c i = 1 := by unfold hld; omega
        rw [← e]; exact kk
    | succ d ih =>
      intro i hi
      have ih := ih (i + 1) (by omega)
      apply hX
      unfold w_m_hold_B0
      refine ⟨by omega, by omega, fun h => absurd h (by omega), fun _ => ⟨by omega, fun b eb _ _ => m_heavy_ok hM hR h1 h2 i (by omega) ?_⟩⟩
      rw [m_thick hM, Int.mul_comm 6 c] at eb
      rw [eb, Int.add_assoc]
      exact ih
  have := key k 0 (by omega)
  rw [show abv B c 0 = 0 from rfl, Int.add_zero] at this
  exact this
