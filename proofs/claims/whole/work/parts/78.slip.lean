/-! ===== slips: heights, layers at a height, weights above it ===== -/
/-- least terms of any two numbers -/
theorem leastTerms_gen {M : Mem} {u l : Nat} {x : Int} {Q : Int → Prop} (hu : u < 2 ^ 40) (hl : l < 2 ^ 40) (l0 : 0 < l) (hx : R32 x)
    (kk : Q ((if x = 0 then (u : Int) else l) / (Nat.gcd u l : Nat))) : w_S_leastTerms M u l x Q := by
  have g0 : 0 < Nat.gcd u l := Nat.gcd_pos_of_pos_right u l0
  have g1 : Nat.gcd u l ≤ l := Nat.le_of_dvd l0 (Nat.gcd_dvd_right u l)
  have J : w_S_leastTerms_j0 Q u l x (Nat.gcd u l : Nat) M := by
    unfold w_S_leastTerms_j0
    refine ⟨by omega, fun _ => ⟨hx, fun h => ?_, fun h => ?_⟩, fun h => absurd h (by omega)⟩
    · rw [if_neg h] at kk
      unfold w_S_leastTerms_j1
      exact ⟨by omega, kk⟩
    · rw [if_pos h] at kk
      unfold w_S_leastTerms_j1
      exact ⟨by omega, kk⟩
  unfold w_S_leastTerms w_S_leastTerms_L0
  intro X hX
  have key : ∀ (n i a b : Nat), n + i ≤ 100 → b ≤ a → a < 2 ^ 40 → a * b < 2 ^ n → Nat.gcd a b = Nat.gcd u l → X a b i := by
    intro n
    induction n with
    | zero =>
      intro i a b hi hb ha hab hg
      have e : b = 0 := by
        by_cases z : b = 0
        · exact z
        · have : 1 * 1 ≤ a * b := Nat.mul_le_mul (by omega) (by omega)
          omega
      subst e
      rw [Nat.gcd_zero_right] at hg
      rw [hg]
      apply hX
      unfold w_S_leastTerms_B0
      exact ⟨by omega, fun h => absurd h (by omega), fun _ => ⟨by decide, fun _ => J, fun h => absurd rfl h⟩⟩
    | succ n ih =>
      intro i a b hi hb ha hab hg
      apply hX
      unfold w_S_leastTerms_B0
      refine ⟨by omega, fun h => absurd h (by omega), fun _ => ⟨by omega, fun h => ?_, fun h => ⟨by omega, ?_⟩⟩⟩
      · have e : b = 0 := by omega
        subst e
        rw [Nat.gcd_zero_right] at hg
        rw [hg]
        exact J
      · have h2 := Nat.mod_lt a (show 0 < b by omega)
        have e : (a : Int) % (b : Int) = ((a % b : Nat) : Int) := by push_cast; rfl
        rw [e]
        exact ih (i + 1) b (a % b) (by omega) (by omega) (by omega) (half_step hb (by omega) hab) (by rw [gcd_step]; exact hg)
  have big : l * u < 2 ^ 80 := by
    have h1 : l * u ≤ l * 2 ^ 40 := Nat.mul_le_mul_left l (by omega)
    have h2 : l * 2 ^ 40 < 2 ^ 40 * 2 ^ 40 := Nat.mul_lt_mul_of_pos_right hl (by decide)
    have h3 : (2 : Nat) ^ 40 * 2 ^ 40 = 2 ^ 80 := by rw [← Nat.pow_add]
    omega
  by_cases ul : u ≤ l
  · exact key 80 0 l u (by decide) ul hl big (Nat.gcd_comm l u)
  · have st := key 80 1 u l (by decide) (by omega) hu (by rw [Nat.mul_comm]; exact big) rfl
    apply hX
    unfold w_S_leastTerms_B0
    refine ⟨by decide, fun h => absurd h (by decide), fun _ => ⟨by omega, fun h => absurd h (by omega), fun h => ⟨by omega, ?_⟩⟩⟩
    have e : (l : Int) % (u : Int) = ((l % u : Nat) : Int) := by push_cast; rfl
    rw [e, Nat.mod_eq_of_lt (by omega)]
    exact st
/-- the middle of a layer -/
def mid (B : Mem) (a : Int) (k : Nat) : Int := B 0 a - dep B a k - B 4 (a * 6 + k) / 2
abbrev inL (B : Mem) (c z : Int) (k : Nat) : Prop := z ≤ B 0 c - dep B c k ∧ B 0 c - dep B c k - B 4 (c * 6 + k) < z
def lat (B : Mem) (c z : Int) : Nat → Nat → Int
  | 0, _ => -1
  | d + 1, i => if inL B c z i then i else lat B c z d (i + 1)
/-- the layer at a height, or -1 -/
def lAt (B : Mem) (c z : Int) : Int := lat B c z (nly B c) 0
/-- the weight above a height -/
def wab (B : Mem) (c z : Int) : Nat → Int
  | 0 => 0
  | k + 1 => wab B c z k + max 0 (min (B 4 (c * 6 + k)) (B 0 c - dep B c k - z)) * uw B c k
section SLIP
variable {M N B : Mem}
theorem mid_rng (hR : RB B) (a : Int) {k : Nat} (hk : k ≤ 6) : -400 ≤ mid B a k ∧ mid B a k ≤ 999 := by
  have := b_top hR a
  have := dep_rng hR a k
  have := b_thick hR (a * 6 + k)
  unfold mid
  omega
theorem lat_rng (c z : Int) : ∀ d i : Nat, lat B c z d i = -1 ∨ ∃ k : Nat, lat B c z d i = k ∧ i ≤ k ∧ k < i + d
  | 0, i => Or.inl rfl
  | d + 1, i => by
    unfold lat
    by_cases h : inL B c z i
    · rw [if_pos h]; exact Or.inr ⟨i, rfl, by omega, by omega⟩
    · rw [if_neg h]
      rcases lat_rng c z d (i + 1) with e | ⟨k, e1, e2, e3⟩
      · exact Or.inl e
      · exact Or.inr ⟨k, e1, by omega, by omega⟩
theorem lAt_rng (c z : Int) : lAt B c z = -1 ∨ ∃ k : Nat, lAt B c z = k ∧ k < nly B c := by
  rcases lat_rng (B := B) c z (nly B c) 0 with e | ⟨k, e1, e2, e3⟩
  · exact Or.inl e
  · exact Or.inr ⟨k, e1, by omega⟩
theorem wab_rng (hR : RB B) (c z : Int) : ∀ k : Nat, 0 ≤ wab B c z k ∧ wab B c z k ≤ 59940 * k
  | 0 => by unfold wab; omega
  | k + 1 => by
    have h1 := wab_rng hR c z k
    have h2 := b_thick hR (c * 6 + k)
    have h3 := mul_rng (a := max 0 (min (B 4 (c * 6 + k)) (B 0 c - dep B c k - z))) (A := 60) (by omega) (uw_rng hR c k)
    unfold wab
    omega
theorem middleOf_ok {a : Int} {k : Nat} {Q : Int → Prop} (hC : CB M B) (a0 : 0 ≤ a) (a6 : a < 6) (hk : k < 6) (kk : Q (mid B a k)) : w_Ground_middleOf M a k Q := by
  unfold w_Ground_middleOf
  refine ⟨⟨a0, a6⟩, ?_⟩
  (intro t et _ _; have et : t = M 19 a := et)
  rw [c_top hC] at et
  refine depthOf_ok hC a0 a6 k (by omega) ⟨by omega, ?_⟩
  (intro h eh _ _; have eh : h = M 23 (a * 6 + k) := eh)
  rw [c_thick hC] at eh
  rw [et, eh]
  exact kk
theorem m_middle_ok {a : Int} {k : Nat} {Q : Int → Prop} (hM : MB M B) (a0 : 0 ≤ a) (a6 : a < 6) (hk : k < 6) (kk : Q (mid B a k)) : w_m_middle M a k Q := by
  unfold w_m_middle
  refine ⟨⟨a0, a6⟩, ?_⟩
  (intro t et _ _; have et : t = M 53 a := et)
  rw [m_top hM] at et
  refine m_depth_ok hM a0 a6 k (by omega) ⟨by omega, ?_⟩
  (intro h eh _ _; have eh : h = M 57 (6 * a + k) := eh)
  rw [m_thick hM, Int.mul_comm 6 a] at eh
  rw [et, eh]
  exact kk
theorem layerAt_ok {c z : Int} {Q : Int → Prop} (hC : CB M B) (hR : RB B) (c0 : 0 ≤ c) (c6 : c < 6) (hz : R32 z) (kk : Q (lAt B c z)) : w_Ground_layerAt M c z Q := by
  have hn := nly_i hR c
  have ht := b_top hR c
  unfold w_Ground_layerAt
  refine ⟨⟨c0, c6⟩, ?_⟩
  (intro t et _ _; have et : t = M 19 c := et)
  rw [c_top hC] at et
  subst et
  unfold w_Ground_layerAt_L0
  intro X hX
  have key : ∀ (d i : Nat), i + d = nly B c → Q (lat B c z d i) → X (B 0 c - dep B c i) i := by
    intro d
    induction d with
    | zero =>
      intro i hi kk
      apply hX
      unfold w_Ground_layerAt_B0
      refine ⟨⟨c0, c6⟩, ?_⟩
      (intro a ea _ _; have ea : a = M 21 c := ea)
      rw [c_layers hC] at ea
      exact ⟨by omega, fun _ => kk, fun h => absurd h (by omega)⟩
    | succ d ih =>
      intro i hi kk
      have hd := dep_rng hR c i
      have st := ih (i + 1) (by omega)
      have e1 : B 0 c - dep B c (i + 1) = B 0 c - dep B c i - B 4 (c * 6 + i) := by
        have : dep B c (i + 1) = dep B c i + B 4 (c * 6 + i) := rfl
        omega
      rw [e1] at st
      unfold lat at kk
      apply hX
      unfold w_Ground_layerAt_B0
      refine ⟨⟨c0, c6⟩, ?_⟩
      (intro a ea _ _; have ea : a = M 21 c := ea)
      rw [c_layers hC] at ea
      refine ⟨by omega, fun h => absurd h (by omega), fun _ => ⟨by omega, ?_⟩⟩
      (intro y ey _ _; have ey : y = M 23 (c * 6 + i) := ey)
      rw [c_thick hC] at ey
      rw [ey]
      have hy := b_thick hR (c * 6 + i)
      refine ⟨by omega, hz, fun h => ?_, fun h => ⟨by omega, hz, fun h2 => ?_, fun h2 => ?_⟩⟩
      · rw [if_neg (fun w => by have := w.1; omega)] at kk
        exact st kk
      · rw [if_neg (fun w => by have := w.2; omega)] at kk
        exact st kk
      · rw [if_pos ⟨by omega, by omega⟩] at kk
        exact kk
  have := key (nly B c) 0 (by omega) kk
  have e0 : B 0 c - dep B c 0 = B 0 c := by
    have : dep B c 0 = 0 := rfl
    omega
  rw [e0] at this
  exact this
theorem m_layerAt_ok {c z : Int} {Q : Int → Prop} (hM : MB M B) (hR : RB B) (c0 : 0 ≤ c) (c6 : c < 6) (hz : R32 z) (kk : Q (lAt B c z)) : w_m_layerAt M c z Q := by
  have hn := nly_i hR c
  have ht := b_top hR c
  unfold w_m_layerAt w_m_layerAt_L0
  intro X hX
  have key : ∀ (d i : Nat), i + d = nly B c → Q (lat B c z d i) → X i := by
    intro d
    induction d with
    | zero =>
      intro i hi kk
      apply hX
      unfold w_m_layerAt_B0
      refine ⟨⟨c0, c6⟩, ?_⟩
      (intro a ea _ _; have ea : a = M 55 c := ea)
      rw [m_layers hM] at ea
      exact ⟨by omega, fun _ => kk, fun h => absurd h (by omega)⟩
    | succ d ih =>
      intro i hi kk
      have hd := dep_rng hR c i
      have st := ih (i + 1) (by omega)
      unfold lat at kk
      apply hX
      unfold w_m_layerAt_B0
      refine ⟨⟨c0, c6⟩, ?_⟩
      (intro a ea _ _; have ea : a = M 55 c := ea)
      rw [m_layers hM] at ea
      refine ⟨by omega, fun h => absurd h (by omega), fun _ => ⟨⟨c0, c6⟩, ?_⟩⟩
      (intro t et _ _; have et : t = M 53 c := et)
      rw [m_top hM] at et
      subst et
      refine m_depth_ok hM c0 c6 i (by omega) ⟨by omega, hz, fun h => ?_, fun h => ⟨by omega, ?_⟩⟩
      · rw [if_neg (fun w => by have := w.1; omega)] at kk
        exact st kk
      (intro y ey _ _; have ey : y = M 57 (6 * c + i) := ey)
      rw [m_thick hM, Int.mul_comm 6 c] at ey
      rw [ey]
      have hy := b_thick hR (c * 6 + i)
      refine ⟨by omega, hz, fun h2 => ?_, fun h2 => ?_⟩
      · rw [if_neg (fun w => by have := w.2; omega)] at kk
        exact st kk
      · rw [if_pos ⟨by omega, by omega⟩] at kk
        exact kk
  exact key (nly B c) 0 (by omega) kk
theorem weightAbove_ok {c z : Int} {Q : Int → Prop} (hC : CB M B) (hR : RB B) (c0 : 0 ≤ c) (c6 : c < 6) (hz : -1000 ≤ z ∧ z ≤ 1000) (kk : Q (wab B c z (nly B c))) : w_Ground_weightAbove M c z Q := by
  have hn := nly_i hR c
  have ht := b_top hR c
  unfold w_Ground_weightAbove w_Ground_weightAbove_L0
  intro X hX
  have key : ∀ (d i : Nat), i + d = nly B c → X (dep B c i) (wab B c z i) i := by
    intro d
    induction d with
    | zero =>
      intro i hi
      rw [Nat.add_zero] at hi
      apply hX
      unfold w_Ground_weightAbove_B0
      refine ⟨⟨c0, c6⟩, ?_⟩
      (intro a ea _ _; have ea : a = M 21 c := ea)
      rw [c_layers hC] at ea
      exact ⟨by omega, fun _ => by rw [hi]; exact kk, fun h => absurd h (by omega)⟩
    | succ d ih =>
      intro i hi
      have hd := dep_rng hR c i
      have hy := b_thick hR (c * 6 + i)
      have st := ih (i + 1) (by omega)
      have J1 : ∀ s : Int, s = wab B c z (i + 1) → w_Ground_weightAbove_j1 Q X c z (dep B c i) s i M := by
        intro s es
        unfold w_Ground_weightAbove_j1
        refine ⟨by omega, ?_⟩
        (intro y ey _ _; have ey : y = M 23 (c * 6 + i) := ey)
        rw [c_thick hC] at ey
        rw [ey, es]
        exact st
      have ew : wab B c z (i + 1) = wab B c z i + max 0 (min (B 4 (c * 6 + i)) (B 0 c - dep B c i - z)) * uw B c i := rfl
      apply hX
      unfold w_Ground_weightAbove_B0
      refine ⟨⟨c0, c6⟩, ?_⟩
      (intro a ea _ _; have ea : a = M 21 c := ea)
      rw [c_layers hC] at ea
      refine ⟨by omega, fun h => absurd h (by omega), fun _ => ⟨by omega, ?_⟩⟩
      (intro y ey _ _; have ey : y = M 23 (c * 6 + i) := ey)
      rw [c_thick hC] at ey
      refine ⟨⟨c0, c6⟩, ?_⟩
      (intro t et _ _; have et : t = M 19 c := et)
      rw [c_top hC] at et
      rw [ey, et]
      refine ⟨by omega, by omega, fun h => J1 _ ?_, fun h => ⟨⟨c0, c6⟩, ?_⟩⟩
      · rw [ew, (show max 0 (min (B 4 (c * 6 + i)) (B 0 c - dep B c i - z)) = 0 by omega), Int.zero_mul, Int.add_zero]
      · have em : max 0 (min (B 4 (c * 6 + i)) (B 0 c - dep B c i - z)) = min (B 4 (c * 6 + i)) (B 0 c - dep B c i - z) := by omega
        rw [em] at ew
        (intro w' ew' _ _; have ew' : w' = M 20 c := ew')
        rw [c_water hC] at ew'
        refine ⟨by omega, fun h2 => ?_, fun h2 => ?_⟩
        · unfold w_Ground_weightAbove_j0 w_Rules_unitWeight
          refine ⟨by decide, fun _ => ?_, fun z => absurd rfl z⟩
          (intro u eu _ _; have eu : u = M 30 20 := eu)
          rw [c_rule hC] at eu
          refine J1 _ ?_
          rw [ew, eu]
          unfold uw
          rw [if_neg (by show ¬ B 1 c ≤ dep B c i; omega)]
        · unfold w_Ground_weightAbove_j0 w_Rules_unitWeight
          refine ⟨by decide, fun z => absurd z (by decide), fun _ => ?_⟩
          (intro u eu _ _; have eu : u = M 30 21 := eu)
          rw [c_rule hC] at eu
          refine J1 _ ?_
          rw [ew, eu]
          unfold uw
          rw [if_pos (by show B 1 c ≤ dep B c i; omega)]
  exact key (nly B c) 0 (by omega)
theorem m_above_ok {c z : Int} {Q : Int → Prop} (hM : MB M B) (hR : RB B) (c0 : 0 ≤ c) (c6 : c < 6) (hz : -1000 ≤ z ∧ z ≤ 1000) (kk : Q (wab B c z (nly B c))) : w_m_above M c z Q := by
  have hn := nly_i hR c
  have ht := b_top hR c
  unfold w_m_above w_m_above_L0
  intro X hX
  have key : ∀ (d i : Nat), i + d = nly B c → X (wab B c z i) i := by
    intro d
    induction d with
    | zero =>
      intro i hi
      rw [Nat.add_zero] at hi
      apply hX
      unfold w_m_above_B0
      refine ⟨⟨c0, c6⟩, ?_⟩
      (intro a ea _ _; have ea : a = M 55 c := ea)
      rw [m_layers hM] at ea
      exact ⟨by omega, fun _ => by rw [hi]; exact kk, fun h => absurd h (by omega)⟩
    | succ d ih =>
      intro i hi
      have hd := dep_rng hR c i
      have hy := b_thick hR (c * 6 + i)
      have st := ih (i + 1) (by omega)
      have ew : wab B c z (i + 1) = wab B c z i + max 0 (min (B 4 (c * 6 + i)) (B 0 c - dep B c i - z)) * uw B c i := rfl
      apply hX
      unfold w_m_above_B0
      refine ⟨⟨c0, c6⟩, ?_⟩
      (intro a ea _ _; have ea : a = M 55 c := ea)
      rw [m_layers hM] at ea
      refine ⟨by omega, fun h => absurd h (by omega), fun _ => ⟨⟨c0, c6⟩, ?_⟩⟩
      (intro t et _ _; have et : t = M 53 c := et)
      rw [m_top hM] at et
      subst et
      refine m_depth_ok hM c0 c6 i (by omega) ⟨by omega, ?_⟩
      (intro y ey _ _; have ey : y = M 57 (6 * c + i) := ey)
      rw [m_thick hM, Int.mul_comm 6 c] at ey
      rw [ey]
      have J : ∀ s : Int, s = max (B 0 c - dep B c i - B 4 (c * 6 + i)) z → w_m_above_j0 Q X c z (wab B c z i) i (B 0 c - dep B c i) s M := by
        intro s es
        unfold w_m_above_j0
        refine ⟨by omega, by omega, fun h => ?_, fun h => ?_⟩
        · rw [(show max 0 (min (B 4 (c * 6 + i)) (B 0 c - dep B c i - z)) = 0 by omega), Int.zero_mul] at ew
          rw [ew] at st
          exact st
        · rw [(show max 0 (min (B 4 (c * 6 + i)) (B 0 c - dep B c i - z)) = B 0 c - dep B c i - s by omega)] at ew
          rw [ew] at st
          exact m_heavy_ok hM hR c0 c6 i (by omega) st
      exact ⟨by omega, by omega, fun h => J _ (by omega), fun h => J _ (by omega)⟩
  exact key (nly B c) 0 (by omega)
end SLIP
