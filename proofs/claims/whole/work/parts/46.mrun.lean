/-! ===== the model's run ===== -/
/-- the model's layers' states -/
def PM (M : Mem) (P : Nat → Int × Int) (n : Nat) : Prop := ∀ k : Nat, k < n → M 69 k = (P k).1 ∧ M 70 k = (P k).2
/-- a state as runs make it -/
def okP (p : Int × Int) (s : Int) : Prop := 0 ≤ p.1 ∧ p.1 ≤ 1000 ∧ (p.2 = -1 → p.1 < 1000) ∧ -1 ≤ p.2 ∧ p.2 < s
theorem gain_t {p : Int × Int} {s t more : Int} (h : okP p t) (hs : 0 ≤ s) (hst : s < t) (hm : 0 ≤ more) : okP (gain p s more) t := by
  obtain ⟨h1, h2, h3, h4, h5⟩ := h
  unfold gain
  by_cases e : p.2 = -1
  · rw [if_pos e]
    by_cases e2 : p.1 + more < 1000
    · rw [if_pos e2]
      exact ⟨by show 0 ≤ p.1 + more; omega, by show p.1 + more ≤ 1000; omega, fun _ => e2, by show (-1 : Int) ≤ -1; omega, by show (-1 : Int) < t; omega⟩
    · rw [if_neg e2]
      exact ⟨by show (0 : Int) ≤ 1000; omega, by show (1000 : Int) ≤ 1000; omega, fun z => by have z : s = -1 := z; omega, by show -1 ≤ s; omega, hst⟩
  · rw [if_neg e]
    exact ⟨h1, h2, h3, h4, h5⟩
theorem okP.up {p : Int × Int} {s : Int} (h : okP p s) : okP p (s + 1) := ⟨h.1, h.2.1, h.2.2.1, h.2.2.2.1, by have := h.2.2.2.2; omega⟩
theorem gain_ok {p : Int × Int} {s more : Int} (h : okP p s) (hs : 0 ≤ s) (hm : 0 ≤ more) : okP (gain p s more) (s + 1) := gain_t h.up hs (by omega) hm
theorem rlk_rng {B : Mem} (hR : RB B) (c : Int) (k : Nat) (n : Int) : 0 ≤ rlk B c k n ∧ rlk B c k n ≤ 999 := b_rule hR _
theorem rlk_pass {B : Mem} (hR : RB B) (hW : WF B) (c : Int) (k : Nat) : 0 ≤ rlk B c k 2 ∧ rlk B c k 2 ≤ 100 := by
  have := b_kind hR (c * 6 + k)
  have := (hW.2.1 (B 3 (c * 6 + k)) (by omega) (by omega)).1
  rw [Int.mul_comm] at this
  exact ⟨(b_rule hR _).1, this⟩
theorem rlk_grow {B : Mem} (hR : RB B) (hW : WF B) (c : Int) (k : Nat) : 0 ≤ rlk B c k 0 ∧ rlk B c k 0 ≤ 99 := by
  have := b_kind hR (c * 6 + k)
  have := (hW.2.1 (B 3 (c * 6 + k)) (by omega) (by omega)).2.1
  rw [Int.mul_comm] at this
  unfold rlk
  rw [Int.add_zero]
  exact ⟨(b_rule hR _).1, this⟩
theorem pct {a b : Int} (ha : 0 ≤ a ∧ a ≤ 999) (hb : 0 ≤ b ∧ b ≤ 100) : (0 ≤ a * b ∧ a * b ≤ 99900) ∧ 0 ≤ a * b / 100 ∧ a * b / 100 ≤ 999 := by
  have := mul_rng ha hb
  omega
theorem arD_rng {B : Mem} (hR : RB B) (hW : WF B) (c : Int) (P : Nat → Int × Int) {a : Int} (ha : 0 ≤ a ∧ a ≤ 999) : ∀ d : Nat, 0 ≤ arD B c P a d ∧ arD B c P a d ≤ 999
  | 0 => ha
  | d + 1 => by
    have ih := arD_rng hR hW c P ha d
    unfold arD
    split
    · exact (pct ih (rlk_pass hR hW c _)).2
    · exact (pct ih ⟨(b_rule hR 22).1, hW.2.2.1⟩).2
theorem arr_rng {B : Mem} (hR : RB B) (hW : WF B) (c q : Int) (P : Nat → Int × Int) (s k : Nat) : 0 ≤ arr B c q P s k ∧ arr B c q P s k ≤ 999 := arD_rng hR hW c P (b_strength hR _) _
theorem val_rng {B : Mem} (hR : RB B) (i le : Int) : 0 ≤ max 0 (B 6 i - le) ∧ (0 ≤ le → max 0 (B 6 i - le) ≤ 100) := by
  have := b_value hR i
  omega
theorem grw_num {B : Mem} (hR : RB B) (hW : WF B) (c q : Int) (P : Nat → Int × Int) (s k : Nat) {i le : Int} (hle : 0 ≤ le) : 0 ≤ arr B c q P s k * (rlk B c k 0 * max 0 (B 6 i - le)) ∧ arr B c q P s k * (rlk B c k 0 * max 0 (B 6 i - le)) ≤ 9890100 := by
  have h1 := arr_rng hR hW c q P s k
  have h2 := mul_rng (rlk_grow hR hW c k) ⟨(val_rng hR i le).1, (val_rng hR i le).2 hle⟩
  have := mul_rng h1 h2
  omega
theorem grw_rng {B : Mem} (hR : RB B) (hW : WF B) (c q : Int) (ch : Nat → Int) {le : Int} (hle : 0 ≤ le) (P : Nat → Int × Int) (s k : Nat) (hk : k ≤ 6) : 0 ≤ grw B c q ch le P s k ∧ grw B c q ch le P s k ≤ 9890100 := by
  have h1 := grw_num hR hW c q P s k (i := (c * 6 + k) * 3 + ch k) hle
  have h2 := hld_rng hR c k hk
  unfold grw
  refine ⟨Int.ediv_nonneg h1.1 (by omega), Int.le_trans (Int.ediv_le_self _ h1.1) h1.2⟩
theorem bt1_ok {B : Mem} (hR : RB B) (hW : WF B) (c q : Int) (ch : Nat → Int) {le : Int} (hle : 0 ≤ le) (P : Nat → Int × Int) (s k : Nat) (hk : k ≤ 6) (h : okP (P k) s) : okP (bt1 B c q ch le P s k) (s + 1) := by
  have w : okP (P k) (s + 1) := ⟨h.1, h.2.1, h.2.2.1, h.2.2.2.1, by have := h.2.2.2.2; omega⟩
  unfold bt1
  split
  · split
    · exact gain_ok h (by omega) (grw_rng hR hW c q ch hle P s k hk).1
    · exact w
  · exact w
theorem los_rng {B : Mem} (hR : RB B) (c : Int) {mo p : Int} (hmo : 0 ≤ mo) (hp : 0 ≤ p ∧ p ≤ 1000) (k : Nat) : (0 ≤ p * min 1000 (rlk B c k 1 + mo) ∧ p * min 1000 (rlk B c k 1 + mo) ≤ 1000000) ∧ 0 ≤ los B c mo p k ∧ los B c mo p k ≤ p := by
  have hr := rlk_rng hR c k 1
  have hm : 0 ≤ min 1000 (rlk B c k 1 + mo) ∧ min 1000 (rlk B c k 1 + mo) ≤ 1000 := by omega
  have h1 := mul_rng hp hm
  have h2 : p * min 1000 (rlk B c k 1 + mo) ≤ p * 1000 := Int.mul_le_mul_of_nonneg_left hm.2 hp.1
  unfold los
  refine ⟨h1, ?_⟩
  split <;> omega
/-- draining, from the states behind a beat -/
def drn (B : Mem) (c mo : Int) (P : Nat → Int × Int) (s k : Nat) : Int × Int :=
  if wet B c k then gain ((P k).1 - los B c mo (P k).1 k, (P k).2) s (if k + 1 < nly B c then los B c mo (P (k + 1)).1 (k + 1) / 2 else 0) else P k
theorem drn_ok {B : Mem} (hR : RB B) (c : Int) {mo : Int} (hmo : 0 ≤ mo) {P : Nat → Int × Int} {s : Nat} (hP : ∀ k, okP (P k) (s + 1)) (k : Nat) : okP (drn B c mo P s k) (s + 1) := by
  have h := hP k
  have hl := los_rng hR c hmo ⟨h.1, h.2.1⟩ k
  have h' := hP (k + 1)
  have hl' := los_rng hR c hmo ⟨h'.1, h'.2.1⟩ (k + 1)
  obtain ⟨h1, h2, h3, h4, h5⟩ := id h
  unfold drn
  by_cases hw : wet B c k
  · rw [if_pos hw]
    refine gain_t ⟨?_, ?_, fun z => ?_, h4, h5⟩ (by omega) (by omega) ?_
    · show (0 : Int) ≤ (P k).1 - los B c mo (P k).1 k; omega
    · show (P k).1 - los B c mo (P k).1 k ≤ (1000 : Int); omega
    · have := h3 z
      show (P k).1 - los B c mo (P k).1 k < (1000 : Int); omega
    · by_cases e : k + 1 < nly B c
      · rw [if_pos e]; omega
      · rw [if_neg e]; omega
  · rw [if_neg hw]; exact h
theorem FF_dry {B : Mem} (c q : Int) (ch : Nat → Int) (mo le : Int) {k : Nat} (h : ¬ wet B c k) : ∀ s, FF B c q ch mo le s k = (0, -1)
  | 0 => rfl
  | s + 1 => by
    show stp B c q ch mo le _ s k = _
    unfold stp
    rw [if_neg h]
theorem FF_drn {B : Mem} (c q : Int) (ch : Nat → Int) (mo le : Int) (s : Nat) : FF B c q ch mo le (s + 1) = drn B c mo (bt1 B c q ch le (FF B c q ch mo le s) s) s := by
  funext k
  show stp B c q ch mo le _ s k = _
  unfold stp drn
  by_cases h : wet B c k
  · rw [if_pos h, if_pos h]
  · rw [if_neg h, if_neg h]
    unfold bt1
    rw [FF_dry c q ch mo le h]
    simp [h]
theorem FF_ok {B : Mem} (hR : RB B) (hW : WF B) (c q : Int) (ch : Nat → Int) {mo le : Int} (hmo : 0 ≤ mo) (hle : 0 ≤ le) : ∀ (s k : Nat), okP (FF B c q ch mo le s k) s
  | 0, k => show okP (0, -1) ((0 : Nat) : Int) from ⟨by decide, by decide, fun _ => by decide, by decide, by decide⟩
  | s + 1, k => by
    rw [FF_drn]
    have ih := FF_ok hR hW c q ch hmo hle s
    refine drn_ok hR c hmo (fun j => ?_) k
    by_cases hj : j ≤ 6
    · exact bt1_ok hR hW c q ch hle _ s j hj (ih j)
    · unfold bt1
      have w : okP (FF B c q ch mo le s j) (s + 1) := ⟨(ih j).1, (ih j).2.1, (ih j).2.2.1, (ih j).2.2.2.1, by have := (ih j).2.2.2.2; omega⟩
      split
      · split
        · refine gain_ok (ih j) (by omega) ?_
          unfold grw
          refine Int.ediv_nonneg (grw_num hR hW c q _ s j hle).1 ?_
          unfold hld
          omega
        · exact w
      · exact w
