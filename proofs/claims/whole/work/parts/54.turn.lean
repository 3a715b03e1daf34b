/-! ===== the class's order of choices ===== -/
/-- the class's i-th choice: the topmost layer turns fastest -/
def chI (B : Mem) (c i : Int) (k : Nat) : Int := i / many B c k % B 5 (c * 6 + k)
/-- the place of a choice: the topmost layer counts most -/
def plc (B : Mem) (c : Int) (ch : Nat → Int) : Nat → Int
  | 0 => 0
  | k + 1 => plc B c ch k * B 5 (c * 6 + k) + ch k
theorem sub1_div {a m : Int} (ha : 0 < a) : (a * m - 1) / a = m - 1 := by
  have e : a * m - 1 = (a - 1) + a * (m - 1) := by rw [Int.mul_sub]; omega
  rw [e, Int.add_mul_ediv_left _ _ (by omega), Int.ediv_eq_zero_of_lt (by omega) (by omega)]
  omega
theorem many_split {B : Mem} {c : Int} (k : Nat) : ∀ d : Nat, ∃ R : Int, many B c (k + d) = many B c k * R
  | 0 => ⟨1, by rw [Nat.add_zero, Int.mul_one]⟩
  | d + 1 => by
    obtain ⟨R, h⟩ := many_split (B := B) (c := c) k d
    refine ⟨R * B 5 (c * 6 + (k + d : Nat)), ?_⟩
    show many B c (k + d) * B 5 (c * 6 + (k + d : Nat)) = _
    rw [h, Int.mul_assoc]
theorem chI_rng {B : Mem} (hR : RB B) (hW : WF B) {c i : Int} (c0 : 0 ≤ c) (c6 : c < 6) {k : Nat} (hk : k < nly B c) : 0 ≤ chI B c i k ∧ chI B c i k < B 5 (c * 6 + k) := by
  have h := vals_rng hR hW c0 c6 hk
  exact ⟨Int.emod_nonneg _ (by omega), Int.emod_lt_of_pos _ (by omega)⟩
/-- a turn that stops at layer k -/
theorem chI_stop {B : Mem} (hR : RB B) (hW : WF B) {c i : Int} (c0 : 0 ≤ c) (c6 : c < 6) {k : Nat} (hk : k < nly B c) {m : Int} (hm : i + 1 = many B c k * m) (h : chI B c i k + 1 < B 5 (c * 6 + k)) : chI B c (i + 1) k = chI B c i k + 1 ∧ ∀ j : Nat, k < j → chI B c (i + 1) j = chI B c i j := by
  have hv := vals_rng hR hW c0 c6 hk
  have h1 := (many_rng hR hW c0 c6 k (by omega)).1
  have ei : i / many B c k = m - 1 := by rw [(show i = many B c k * m - 1 by omega)]; exact sub1_div (by omega)
  have ej : (i + 1) / many B c k = m := by rw [hm]; exact Int.mul_ediv_cancel_left _ (by omega)
  have f0 : chI B c i k = (m - 1) % B 5 (c * 6 + k) := by unfold chI; rw [ei]
  have f1 := Int.emod_nonneg (m - 1) (show B 5 (c * 6 + k) ≠ 0 by omega)
  have f2 := Int.mul_ediv_add_emod (m - 1) (B 5 (c * 6 + k))
  rw [f0] at h
  have e1 : m = ((m - 1) % B 5 (c * 6 + k) + 1) + B 5 (c * 6 + k) * ((m - 1) / B 5 (c * 6 + k)) := by omega
  have e2 : m % B 5 (c * 6 + k) = (m - 1) % B 5 (c * 6 + k) + 1 := by
    conv => lhs; rw [e1]
    rw [Int.add_mul_emod_self_left]
    exact Int.emod_eq_of_lt (by omega) h
  have e3 : m / B 5 (c * 6 + k) = (m - 1) / B 5 (c * 6 + k) := by
    conv => lhs; rw [e1]
    rw [Int.add_mul_ediv_left _ _ (by omega), Int.ediv_eq_zero_of_lt (by omega) h]
    omega
  refine ⟨?_, fun j hj => ?_⟩
  · rw [f0]
    unfold chI
    rw [ej]
    exact e2
  · obtain ⟨R, hr⟩ := many_split (B := B) (c := c) (k + 1) (j - (k + 1))
    rw [(show k + 1 + (j - (k + 1)) = j by omega)] at hr
    have hr : many B c j = many B c k * (B 5 (c * 6 + k) * R) := by
      rw [hr]
      show many B c k * B 5 (c * 6 + k) * R = _
      rw [Int.mul_assoc]
    have d3 : ∀ x : Int, x / (many B c k * (B 5 (c * 6 + k) * R)) = x / many B c k / B 5 (c * 6 + k) / R := fun x => by
      rw [← Int.ediv_ediv_of_nonneg (x := x) (y := many B c k) (z := B 5 (c * 6 + k) * R) (by omega), ← Int.ediv_ediv_of_nonneg (x := x / many B c k) (y := B 5 (c * 6 + k)) (z := R) (by omega)]
    unfold chI
    rw [hr, d3, d3, ei, ej, e3]
/-- a turn that goes on beyond layer k -/
theorem chI_on {B : Mem} (hR : RB B) (hW : WF B) {c i : Int} (c0 : 0 ≤ c) (c6 : c < 6) {k : Nat} (hk : k < nly B c) {m : Int} (hm : i + 1 = many B c k * m) (h : ¬ chI B c i k + 1 < B 5 (c * 6 + k)) : chI B c (i + 1) k = 0 ∧ ∃ m', i + 1 = many B c (k + 1) * m' := by
  have hv := vals_rng hR hW c0 c6 hk
  have h1 := (many_rng hR hW c0 c6 k (by omega)).1
  have ei : i / many B c k = m - 1 := by rw [(show i = many B c k * m - 1 by omega)]; exact sub1_div (by omega)
  have ej : (i + 1) / many B c k = m := by rw [hm]; exact Int.mul_ediv_cancel_left _ (by omega)
  have f0 : chI B c i k = (m - 1) % B 5 (c * 6 + k) := by unfold chI; rw [ei]
  have f1 := Int.emod_lt_of_pos (m - 1) (show 0 < B 5 (c * 6 + k) by omega)
  have f2 := Int.mul_ediv_add_emod (m - 1) (B 5 (c * 6 + k))
  rw [f0] at h
  have e1 : m = B 5 (c * 6 + k) * ((m - 1) / B 5 (c * 6 + k) + 1) := by rw [Int.mul_add, Int.mul_one]; omega
  refine ⟨?_, (m - 1) / B 5 (c * 6 + k) + 1, ?_⟩
  · unfold chI
    rw [ej]
    conv => lhs; rw [e1]
    exact Int.mul_emod_right _ _
  · rw [hm]
    conv => lhs; rw [e1]
    show _ = many B c k * B 5 (c * 6 + k) * _
    rw [Int.mul_assoc]
theorem chI_zero (B : Mem) (c : Int) : chI B c 0 = fun _ => 0 := by
  funext k
  unfold chI
  rw [Int.zero_ediv, Int.zero_emod]
section TURN
variable {M N O B : Mem} {c q : Int} {ch ch' : Nat → Int} {mo le : Int}
/-- what a turn may change -/
def FrA (M N : Mem) : Prop := (∀ h, h ≠ 1 → h ≠ 13 → N h = M h) ∧ ∀ k : Int, k ≠ 16 → N 1 k = M 1 k
theorem FrA.t (h : FrA M N) : FrT M N := fun x a b _ _ _ _ _ => h.1 x a b
theorem advance_ok {i : Int} {Q : Mem → Prop} (H : TrB M B c (chI B c i)) (s0 : -1 ≤ M 1 16 ∧ M 1 16 < (nly B c : Nat))
    (kk : ∀ N, TrB N B c (chI B c (i + 1)) → FrA M N → M 1 16 ≤ N 1 16 → N 1 16 < (nly B c : Nat) → (∀ j : Nat, N 1 16 < j → j < nly B c → chI B c (i + 1) j = chI B c i j) → Q N) : w_Trial_advance M Q := by
  have hR := H.hR
  have hW := H.hW
  have c0 := H.c0
  have c6 := H.c6
  obtain ⟨hn, hn6⟩ := nly_i hR c
  unfold w_Trial_advance w_Trial_advance_L0
  intro X hX
  have fin : ∀ N, FrA M N → M 1 16 ≤ N 1 16 → N 1 16 < (nly B c : Nat) → (∀ j : Nat, j < nly B c → N 13 j = chI B c (i + 1) j) → (∀ j : Nat, N 1 16 < j → j < nly B c → chI B c (i + 1) j = chI B c i j) → Q N := by
    intro N f1 f2 f3 f4 f5
    exact kk N ⟨by rw [f1.2 _ (by decide)]; exact H.col, by rw [f1.2 _ (by decide)]; exact H.lay, fun j hj => ⟨f4 j hj, chI_rng hR hW c0 c6 hj⟩, H.hC.ag f1.t.ag, hR, hW, c0, c6⟩ f1 f2 f3 f5
  have key : ∀ (d k : Nat) (N : Mem), k + d = nly B c → FrA M N → M 1 16 ≤ N 1 16 → N 1 16 < (nly B c : Nat) → (k : Int) ≤ N 1 16 + 1 → (∃ m, i + 1 = many B c k * m) → (∀ j : Nat, j < k → N 13 j = chI B c (i + 1) j) → (∀ j : Nat, k ≤ j → j < nly B c → N 13 j = chI B c i j) → X k N := by
    intro d
    induction d with
    | zero =>
      intro k N hk f1 f2 f3 f3b f4 f5 f6
      apply hX
      unfold w_Trial_advance_B0
      (intro a ea _ _; have ea : a = N 1 10 := ea)
      rw [f1.2 _ (by decide), H.lay] at ea
      refine ⟨by omega, fun _ => fin N f1 f2 f3 (fun j hj => f5 j (by omega)) (fun j hj hj2 => absurd hj (by omega)), fun h => absurd h (by omega)⟩
    | succ d ih =>
      intro k N hk f1 f2 f3 f3b f4 f5 f6
      obtain ⟨m, hm⟩ := f4
      have hkn : k < nly B c := by omega
      have hr := chI_rng (i := i) hR hW c0 c6 hkn
      have hv := vals_rng hR hW c0 c6 hkn
      apply hX
      unfold w_Trial_advance_B0
      (intro a ea _ _; have ea : a = N 1 10 := ea)
      rw [f1.2 _ (by decide), H.lay] at ea
      refine ⟨by omega, fun h => absurd h (by omega), fun _ => ?_⟩
      (intro s es _ _; have es : s = N 1 16 := es)
      refine ⟨by omega, by omega, ?_⟩
      (intro N1 eN1; subst eN1)
      refine ⟨by omega, ?_⟩
      (intro x ex _ _; have ex : x = N 13 k := ex)
      rw [f6 k (by omega) hkn] at ex
      subst ex
      refine ⟨by omega, ?_⟩
      (intro N2 eN2; subst eN2)
      refine ⟨by omega, ?_⟩
      intro y ey _ _
      rw [ms_s] at ey
      subst ey
      intro z ez _ _
      rw [mset_ne (by decide), ms_n (by decide), f1.2 _ (by decide), H.col] at ez
      subst ez
      refine ⟨by omega, ?_⟩
      intro v ev _ _
      rw [mset_ne (by decide), mset_ne (by decide), f1.1 _ (by decide) (by decide), c_values H.hC] at ev
      subst ev
      have g1 : FrA M (mset (mset N 1 16 (max s k)) 13 k (chI B z i k + 1)) := by
        refine ⟨fun h a b => by rw [mset_ne b, mset_ne a]; exact f1.1 h a b, fun j hj => ?_⟩
        rw [mset_ne (by decide), ms_n hj]
        exact f1.2 j hj
      have g2 : (mset (mset N 1 16 (max s k)) 13 k (chI B z i k + 1)) 1 16 = max s k := by rw [mset_ne (by decide), ms_s]
      have g3 : (mset (mset N 1 16 (max s k)) 13 k (chI B z i k + 1)) 13 k = chI B z i k + 1 := ms_s
      have g4 : ∀ j : Int, j ≠ k → (mset (mset N 1 16 (max s k)) 13 k (chI B z i k + 1)) 13 j = N 13 j := fun j hj => by rw [ms_n hj, mset_ne (by decide)]
      generalize (mset (mset N 1 16 (max s k)) 13 k (chI B z i k + 1)) = N2 at g1 g2 g3 g4 ⊢
      refine ⟨fun h => ⟨by omega, ?_⟩, fun h => ?_⟩
      · have hon := chI_on hR hW c0 c6 hkn hm (by omega)
        (intro N3 eN3; subst eN3)
        refine ih (k + 1) _ (by omega) ⟨fun h a b => by rw [mset_ne b]; exact g1.1 h a b, fun j hj => by rw [mset_ne (by decide)]; exact g1.2 j hj⟩ (by rw [mset_ne (by decide), g2]; omega) (by rw [mset_ne (by decide), g2]; omega) (by rw [mset_ne (by decide), g2]; omega) hon.2 (fun j hj => ?_) (fun j hj hj2 => ?_)
        · by_cases e : j = k
          · subst e; rw [ms_s]; exact hon.1.symm
          · have e2 : ¬ (j : Int) = k := fun z => e (Int.ofNat_inj.mp z)
            rw [ms_n e2, g4 _ e2]; exact f5 j (by omega)
        · have e2 : ¬ (j : Int) = k := by omega
          rw [ms_n e2, g4 _ e2]; exact f6 j (by omega) hj2
      · have hst := chI_stop hR hW c0 c6 hkn hm (by omega)
        refine fin N2 g1 (by rw [g2]; omega) (by rw [g2]; omega) (fun j hj => ?_) (fun j hj hj2 => hst.2 j (by rw [g2] at hj; omega))
        by_cases e : j = k
        · subst e; rw [g3]; exact hst.1.symm
        · have e2 : ¬ (j : Int) = k := fun z => e (Int.ofNat_inj.mp z)
          rw [g4 _ e2]
          by_cases e3 : j < k
          · exact f5 j e3
          · rw [f6 j (by omega) hj]
            exact (hst.2 j (by omega)).symm
  exact key (nly B c) 0 M (by omega) ⟨fun _ _ _ => rfl, fun _ _ => rfl⟩ (Int.le_refl _) s0.2 (by omega) ⟨i + 1, by show _ = 1 * _; omega⟩ (fun j hj => absurd hj (by omega)) (fun j _ hj => (H.cho j hj).1)
theorem place_ok {Q : Int → Prop} (H : TrB M B c ch) (kk : Q (plc B c ch (nly B c))) : w_Trial_place M Q := by
  have c0 := H.c0
  have c6 := H.c6
  obtain ⟨hn, hn6⟩ := nly_i H.hR c
  unfold w_Trial_place w_Trial_place_L0
  intro X hX
  have key : ∀ (d i : Nat), i + d = nly B c → X (plc B c ch i) i := by
    intro d
    induction d with
    | zero =>
      intro i hi
      apply hX
      unfold w_Trial_place_B0
      (intro a ea _ _; have ea : a = M 1 10 := ea)
      rw [H.lay] at ea
      rw [Nat.add_zero] at hi
      refine ⟨by omega, fun _ => by rw [hi]; exact kk, fun h => absurd h (by omega)⟩
    | succ d ih =>
      intro i hi
      have hc := H.cho i (by omega)
      have hv := vals_rng H.hR H.hW c0 c6 (show i < nly B c by omega)
      apply hX
      unfold w_Trial_place_B0
      (intro a ea _ _; have ea : a = M 1 10 := ea)
      rw [H.lay] at ea
      refine ⟨by omega, fun h => absurd h (by omega), fun _ => ?_⟩
      (intro b eb _ _; have eb : b = M 1 9 := eb)
      rw [H.col] at eb
      subst eb
      refine ⟨by omega, ?_⟩
      (intro v ev _ _; have ev : v = M 24 (b * 6 + i) := ev)
      rw [c_values H.hC] at ev
      subst ev
      refine ⟨by omega, ?_⟩
      (intro x ex _ _; have ex : x = M 13 i := ex)
      rw [hc.1] at ex
      subst ex
      exact ih (i + 1) (by omega)
  exact key (nly B c) 0 (by omega)
theorem weightNow_ok {Q : Int → Prop} (H : TrB M B c ch) (kk : Q (wgt B c ch (nly B c))) : w_Trial_weightNow M Q := by
  have c0 := H.c0
  have c6 := H.c6
  obtain ⟨hn, hn6⟩ := nly_i H.hR c
  unfold w_Trial_weightNow w_Trial_weightNow_L0
  intro X hX
  have key : ∀ (d i : Nat), i + d = nly B c → X (wgt B c ch i) i := by
    intro d
    induction d with
    | zero =>
      intro i hi
      apply hX
      unfold w_Trial_weightNow_B0
      (intro a ea _ _; have ea : a = M 1 10 := ea)
      rw [H.lay] at ea
      rw [Nat.add_zero] at hi
      refine ⟨by omega, fun _ => by rw [hi]; exact kk, fun h => absurd h (by omega)⟩
    | succ d ih =>
      intro i hi
      have hc := H.cho i (by omega)
      have hv := vals_rng H.hR H.hW c0 c6 (show i < nly B c by omega)
      apply hX
      unfold w_Trial_weightNow_B0
      (intro a ea _ _; have ea : a = M 1 10 := ea)
      rw [H.lay] at ea
      refine ⟨by omega, fun h => absurd h (by omega), fun _ => ?_⟩
      (intro b eb _ _; have eb : b = M 1 9 := eb)
      rw [H.col] at eb
      subst eb
      refine ⟨by omega, ?_⟩
      (intro x ex _ _; have ex : x = M 13 i := ex)
      rw [hc.1] at ex
      subst ex
      refine ⟨by omega, ?_⟩
      (intro v ev _ _; have ev : v = M 26 ((b * 6 + i) * 3 + ch i) := ev)
      rw [c_weight H.hC] at ev
      subst ev
      exact ih (i + 1) (by omega)
  exact key (nly B c) 0 (by omega)
theorem someGone_ok {P : Nat → Int × Int} {Q : Int → Prop} (H : TrB M B c ch) (hp : PC M P (nly B c)) (k1 : (∃ k, k < nly B c ∧ (P k).2 ≠ -1) → Q 1) (k0 : (¬ ∃ k, k < nly B c ∧ (P k).2 ≠ -1) → Q 0) : w_Trial_someGone M Q := by
  obtain ⟨hn, hn6⟩ := nly_i H.hR c
  unfold w_Trial_someGone w_Trial_someGone_L0
  intro X hX
  have key : ∀ (d i : Nat), i + d = nly B c → (∀ k, k < i → (P k).2 = -1) → X i := by
    intro d
    induction d with
    | zero =>
      intro i hi h
      apply hX
      unfold w_Trial_someGone_B0
      (intro a ea _ _; have ea : a = M 1 10 := ea)
      rw [H.lay] at ea
      refine ⟨by omega, fun _ => k0 (fun ⟨k, hk, h2⟩ => h2 (h k (by omega))), fun h => absurd h (by omega)⟩
    | succ d ih =>
      intro i hi h
      apply hX
      unfold w_Trial_someGone_B0
      (intro a ea _ _; have ea : a = M 1 10 := ea)
      rw [H.lay] at ea
      refine ⟨by omega, fun h => absurd h (by omega), fun _ => ⟨by omega, ?_⟩⟩
      (intro b eb _ _; have eb : b = M 15 i := eb)
      rw [(hp i (by omega)).2] at eb
      refine ⟨fun hb => ih (i + 1) (by omega) (fun k hk => ?_), fun hb => k1 ⟨i, by omega, by omega⟩⟩
      by_cases e : k = i
      · subst e; omega
      · exact h k (by omega)
  exact key (nly B c) 0 (by omega) (fun k hk => absurd hk (by omega))
end TURN
/-! ===== places and turns ===== -/
section PLACE
variable {B : Mem} {c : Int} {ch : Nat → Int}
/-- digits in their ranges -/
def okD (B : Mem) (c : Int) (ch : Nat → Int) : Prop := ∀ k : Nat, k < nly B c → 0 ≤ ch k ∧ ch k < B 5 (c * 6 + k)
theorem plc_rng (hR : RB B) (hW : WF B) (c0 : 0 ≤ c) (c6 : c < 6) (h : okD B c ch) : ∀ k : Nat, k ≤ nly B c → 0 ≤ plc B c ch k ∧ plc B c ch k < many B c k
  | 0, _ => by unfold plc many; omega
  | k + 1, hk => by
    have ih := plc_rng hR hW c0 c6 h k (by omega)
    have hv := vals_rng hR hW c0 c6 (show k < nly B c by omega)
    have hd := h k (by omega)
    have h1 : 0 * B 5 (c * 6 + k) ≤ plc B c ch k * B 5 (c * 6 + k) := Int.mul_le_mul_of_nonneg_right ih.1 (by omega)
    have h2 : (plc B c ch k + 1) * B 5 (c * 6 + k) ≤ many B c k * B 5 (c * 6 + k) := Int.mul_le_mul_of_nonneg_right (by omega) (by omega)
    rw [Int.add_mul, Int.one_mul] at h2
    unfold plc many
    omega
theorem plc_step (hR : RB B) (hW : WF B) (c0 : 0 ≤ c) (c6 : c < 6) (h : okD B c ch) {k : Nat} (hk : k < nly B c) : plc B c ch (k + 1) / B 5 (c * 6 + k) = plc B c ch k ∧ plc B c ch (k + 1) % B 5 (c * 6 + k) = ch k := by
  have hv := vals_rng hR hW c0 c6 hk
  have hd := h k hk
  have e : plc B c ch (k + 1) = ch k + B 5 (c * 6 + k) * plc B c ch k := by
    show plc B c ch k * B 5 (c * 6 + k) + ch k = _
    rw [Int.mul_comm, Int.add_comm]
  rw [e]
  refine ⟨?_, ?_⟩
  · rw [Int.add_mul_ediv_left _ _ (by omega), Int.ediv_eq_zero_of_lt hd.1 hd.2, Int.zero_add]
  · rw [Int.add_mul_emod_self_left, Int.emod_eq_of_lt hd.1 hd.2]
theorem lft_plc (hR : RB B) (hW : WF B) (c0 : 0 ≤ c) (c6 : c < 6) (h : okD B c ch) : ∀ d : Nat, d ≤ nly B c → lft B c (nly B c) (plc B c ch (nly B c)) d = plc B c ch (nly B c - d)
  | 0, _ => rfl
  | d + 1, hd => by
    unfold lft
    rw [lft_plc hR hW c0 c6 h d (by omega), (show nly B c - d = (nly B c - 1 - d) + 1 by omega), (plc_step hR hW c0 c6 h (show nly B c - 1 - d < nly B c by omega)).1, (show nly B c - (d + 1) = nly B c - 1 - d by omega)]
/-- a choice is found again at its place -/
theorem dig_plc (hR : RB B) (hW : WF B) (c0 : 0 ≤ c) (c6 : c < 6) (h : okD B c ch) {k : Nat} (hk : k < nly B c) : dig B c (plc B c ch (nly B c)) k = ch k := by
  unfold dig
  rw [lft_plc hR hW c0 c6 h _ (by omega), (show nly B c - (nly B c - 1 - k) = k + 1 by omega)]
  exact (plc_step hR hW c0 c6 h hk).2
theorem chI_ok (hR : RB B) (hW : WF B) (c0 : 0 ≤ c) (c6 : c < 6) (i : Int) : okD B c (chI B c i) := fun k hk => chI_rng hR hW c0 c6 hk
/-- the place of the class's i-th choice -/
def plI (B : Mem) (c i : Int) : Int := plc B c (chI B c i) (nly B c)
theorem plI_rng (hR : RB B) (hW : WF B) (c0 : 0 ≤ c) (c6 : c < 6) (i : Int) : 0 ≤ plI B c i ∧ plI B c i < many B c (nly B c) := plc_rng hR hW c0 c6 (chI_ok hR hW c0 c6 i) _ (Nat.le_refl _)
/-- a sum over 0 .. n-1 -/
def sm (f : Int → Int) : Nat → Int
  | 0 => 0
  | n + 1 => sm f n + f n
theorem sm_cg {f g : Int → Int} : ∀ n : Nat, (∀ i : Nat, i < n → f i = g i) → sm f n = sm g n
  | 0, _ => rfl
  | n + 1, h => by unfold sm; rw [sm_cg n (fun i hi => h i (by omega)), h n (by omega)]
theorem sm_add {f : Int → Int} (a : Nat) : ∀ b : Nat, sm f (a + b) = sm f a + sm (fun i => f (a + i)) b
  | 0 => (Int.add_zero _).symm
  | b + 1 => by
    show sm f (a + b) + f ((a + b : Nat) : Int) = sm f a + (sm (fun i => f (a + i)) b + f (a + (b : Nat)))
    rw [sm_add a b, (show ((a + b : Nat) : Int) = (a : Int) + (b : Nat) by omega)]
    omega
theorem sm_plus {f g : Int → Int} : ∀ n : Nat, sm (fun i => f i + g i) n = sm f n + sm g n
  | 0 => rfl
  | n + 1 => by unfold sm; rw [sm_plus n]; omega
/-- v rows of n, or n rows of v -/
theorem sm_swap {f : Int → Int} (v : Nat) : ∀ n : Nat, sm (fun d => sm (fun p => f (p * v + d)) n) v = sm f (n * v)
  | 0 => by
    have : ∀ v : Nat, sm (fun _ => (0 : Int)) v = 0 := fun v => by
      induction v with
      | zero => rfl
      | succ v ih => unfold sm; rw [ih]; rfl
    rw [Nat.zero_mul]
    exact this v
  | n + 1 => by
    have e : ∀ d : Int, sm (fun p => f (p * v + d)) (n + 1) = sm (fun p => f (p * v + d)) n + f (n * v + d) := fun d => rfl
    rw [sm_cg (g := fun d => sm (fun p => f (p * v + d)) n + f (n * v + d)) v (fun i _ => e i), sm_plus, sm_swap v n, Nat.succ_mul, sm_add]
    rw [(show ((n * v : Nat) : Int) = (n : Int) * v by exact Int.natCast_mul n v)]
/-- the class's order leaves sums as they are -/
theorem sm_turn (hR : RB B) (hW : WF B) (c0 : 0 ≤ c) (c6 : c < 6) : ∀ (k : Nat) (f : Int → Int), k ≤ nly B c → sm (fun i => f (plc B c (chI B c i) k)) (many B c k).toNat = sm f (many B c k).toNat
  | 0, f, _ => rfl
  | k + 1, f, hk => by
    have hm := many_rng hR hW c0 c6 k (by omega)
    have hv := vals_rng hR hW c0 c6 (show k < nly B c by omega)
    have ev : B 5 (c * 6 + k) = ((B 5 (c * 6 + k)).toNat : Nat) := by omega
    have em : many B c k = ((many B c k).toNat : Nat) := by omega
    have e : (many B c (k + 1)).toNat = (many B c k).toNat * (B 5 (c * 6 + k)).toNat := by
      show (many B c k * B 5 (c * 6 + k)).toNat = _
      rw [em, ev, ← Int.natCast_mul]
      simp only [Int.toNat_natCast]
    rw [e]
    -- by the slowest digit
    have blk : ∀ V : Nat, V ≤ (B 5 (c * 6 + k)).toNat → sm (fun i => f (plc B c (chI B c i) (k + 1))) ((many B c k).toNat * V) = sm (fun d => sm (fun p => f (p * ((B 5 (c * 6 + k)).toNat : Nat) + d)) (many B c k).toNat) V := by
      intro V
      induction V with
      | zero => intro _; rfl
      | succ V ih =>
        intro hV
        rw [Nat.mul_succ, sm_add, ih (by omega)]
        show _ = _ + sm (fun p => f (p * ((B 5 (c * 6 + k)).toNat : Nat) + (V : Nat))) (many B c k).toNat
        rw [← sm_turn hR hW c0 c6 k (fun p => f (p * ((B 5 (c * 6 + k)).toNat : Nat) + (V : Nat))) (by omega)]
        congr 1
        refine sm_cg _ (fun i hi => ?_)
        have ei : (((many B c k).toNat * V : Nat) : Int) + (i : Int) = i + many B c k * V := by
          rw [Int.natCast_mul, ← em, Int.add_comm]
        rw [ei]
        have low : ∀ j : Nat, j < k → chI B c (i + many B c k * V) j = chI B c i j := by
          intro j hj
          have hmj := many_rng hR hW c0 c6 j (by omega)
          obtain ⟨R, hr⟩ := many_split (B := B) (c := c) (j + 1) (k - (j + 1))
          rw [(show j + 1 + (k - (j + 1)) = k by omega)] at hr
          have hr : many B c k = many B c j * (B 5 (c * 6 + j) * R) := by
            rw [hr]
            show many B c j * B 5 (c * 6 + j) * R = _
            rw [Int.mul_assoc]
          unfold chI
          rw [hr, Int.mul_assoc, Int.add_mul_ediv_left _ _ (by omega), Int.mul_assoc, Int.add_mul_emod_self_left]
        have top : chI B c (i + many B c k * V) k = V := by
          unfold chI
          rw [Int.add_mul_ediv_left _ _ (by omega), Int.ediv_eq_zero_of_lt (by omega) (by omega), Int.zero_add]
          exact Int.emod_eq_of_lt (by omega) (by omega)
        have pl : ∀ j : Nat, j ≤ k → plc B c (chI B c (i + many B c k * V)) j = plc B c (chI B c i) j := by
          intro j
          induction j with
          | zero => intro _; rfl
          | succ j ihj =>
            intro hj
            unfold plc
            rw [ihj (by omega), low j (by omega)]
        show f (plc B c (chI B c (i + many B c k * V)) k * B 5 (c * 6 + k) + chI B c (i + many B c k * V) k) = _
        rw [pl k (Nat.le_refl _), top, ← ev]
    rw [blk _ (Nat.le_refl _), sm_swap]
theorem sm_plI (hR : RB B) (hW : WF B) (c0 : 0 ≤ c) (c6 : c < 6) (f : Int → Int) : sm (fun i => f (plI B c i)) (many B c (nly B c)).toNat = sm f (many B c (nly B c)).toNat := sm_turn hR hW c0 c6 _ f (Nat.le_refl _)
end PLACE
