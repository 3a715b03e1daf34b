/-! ===== the law: every call alike ===== -/
set_option maxHeartbeats 4000000 in
set_option maxRecDepth 100000 in
theorem law_ok {n : Nat} {sx : Int → Int} (hn : n ≤ 3072) (hx : ∀ i : Int, R32 (sx i)) {M B : Mem} (I : Inv M B) : w_law_law_L0 n sx (fun z _ => z = 1) 0 M := by
  unfold w_law_law_L0
  intro X hX
  have key : ∀ (d i : Nat) (M B : Mem), n ≤ i + d → i ≤ n + 6 → Inv M B → X i M := by
    intro d
    induction d with
    | zero =>
      intro i M B hd hi I
      apply hX
      unfold w_law_law_B0
      exact ⟨by omega, by omega, fun _ => rfl, fun h => absurd (show (n : Int) - 6 < i by omega) h⟩
    | succ d ih =>
      intro i M B hd hi I
      have go : (i : Int) + 6 ≤ n → ∀ (N B' : Mem), Inv N B' → X ((i : Int) + 6) N := fun h N B' IN => ih (i + 6) N B' (by omega) (by omega) IN
      apply hX
      unfold w_law_law_B0
      refine ⟨by omega, by omega, fun _ => rfl, fun h => ?_⟩
      have h6 : (i : Int) + 6 ≤ n := by omega
      have go := go h6
      have f1 : 0 ≤ (i : Int) + 1 ∧ (i : Int) + 1 < n := by omega
      have f2 : 0 ≤ (i : Int) + 2 ∧ (i : Int) + 2 < n := by omega
      have f3 : 0 ≤ (i : Int) + 3 ∧ (i : Int) + 3 < n := by omega
      have f4 : 0 ≤ (i : Int) + 4 ∧ (i : Int) + 4 < n := by omega
      have f5 : 0 ≤ (i : Int) + 5 ∧ (i : Int) + 5 < n := by omega
      have hb : -2147483648 ≤ bAnd (sx i) 31 ∧ bAnd (sx i) 31 ≤ 2147483647 := ⟨Int32.le_toInt _, by have := Int32.toInt_lt (Int32.ofInt (sx i) &&& Int32.ofInt 31); unfold bAnd; omega⟩
      have hx2 := hx ((i : Int) + 2)
      have hx3 := hx ((i : Int) + 3)
      have t1 := eq_true f1
      have t2 := eq_true f2
      have t3 := eq_true f3
      have t4 := eq_true f4
      have t5 := eq_true f5
      have t6 := eq_true hx2
      have t7 := eq_true hx3
      simp only [t1, t2, t3, t4, t5, t6, t7, true_and]
      refine ⟨by omega, hb, fun _ => go M B I, ?_, ?_, ?_, ?_, ?_, ?_, ?_, ?_, ?_, ?_, ?_, ?_, ?_, ?_, ?_, ?_, ?_, ?_, ?_, ?_, ?_, ?_, ?_, ?_, ?_, ?_, ?_, ?_, ?_, ?_, ?_, ?_⟩
      · exact fun _ => both_column (Q := fun r r2 M2 => r = r2 ∧ X ((i : Int) + 6) M2) I (hx _) (hx _) (hx _) (fun r N B' IN => ⟨rfl, go N B' IN⟩)
      · exact fun _ => both_layer (Q := fun r r2 M2 => r = r2 ∧ X ((i : Int) + 6) M2) I (hx _) (hx _) (hx _) (hx _) (fun r N B' IN => ⟨rfl, go N B' IN⟩)
      · exact fun _ => both_loose (Q := fun r r2 M2 => r = r2 ∧ X ((i : Int) + 6) M2) I (hx _) (hx _) (hx _) (hx _) (fun r N B' IN => ⟨rfl, go N B' IN⟩)
      · exact fun _ => both_about (Q := fun r r2 => r = r2 ∧ X ((i : Int) + 6) M) I (hx _) (hx _) (hx _) (fun r => ⟨rfl, go M B I⟩)
      · exact fun _ => both_shake (Q := fun r r2 M2 => r = r2 ∧ X ((i : Int) + 6) M2) I (hx _) (fun r N B' IN => ⟨rfl, go N B' IN⟩)
      · exact fun _ => both_beat (Q := fun r r2 M2 => r = r2 ∧ X ((i : Int) + 6) M2) I (hx _) (hx _) (fun r N B' IN => ⟨rfl, go N B' IN⟩)
      · exact fun _ => both_count (Q := fun r r2 => r = r2 ∧ X ((i : Int) + 6) M) I (hx _) (fun r => ⟨rfl, go M B I⟩)
      · exact fun _ => both_run (Q := fun r r2 M2 => r = r2 ∧ X ((i : Int) + 6) M2) I (hx _) (hx _) (hx _) (hx _) (fun r N B' IN => ⟨rfl, go N B' IN⟩)
      · exact fun _ => both_choices (Q := fun r r2 M2 => r = r2 ∧ X ((i : Int) + 6) M2) I (hx _) (hx _) (hx _) (hx _) (fun r N B' IN => ⟨rfl, go N B' IN⟩)
      · exact fun _ => both_odds (Q := fun r r2 M2 => r = r2 ∧ X ((i : Int) + 6) M2) I (hx _) (hx _) (hx _) (hx _) (fun r N B' IN => ⟨rfl, go N B' IN⟩)
      · exact fun _ => both_step (Q := fun r r2 M2 => r = r2 ∧ X ((i : Int) + 6) M2) I (hx _) (hx _) (hx _) (hx _) (fun r N B' IN => ⟨rfl, go N B' IN⟩)
      · exact fun _ => both_word (Q := fun r r2 M2 => r = r2 ∧ X ((i : Int) + 6) M2) I (hx _) (hx _) (hx _) (hx _) (hx _) (fun r N B' IN => ⟨rfl, go N B' IN⟩)
      · intro _
        refine ⟨fun hz => ?_, fun hz => ?_⟩
        · unfold w_law_law_j0 w_law_law_j1
          simp only [t1, t2, t6, true_and]
          simp only [hz, not_true_eq_false, false_implies, and_true, true_implies]
          exact both_strike (z := 0) (Q := fun r r2 M2 => r = r2 ∧ X ((i : Int) + 6) M2) I (hx _) (by decide) (fun r N B' IN => ⟨rfl, go N B' IN⟩)
        · unfold w_law_law_j0 w_law_law_j1
          simp only [t1, t2, t6, true_and, hz, not_false_eq_true, false_implies, true_implies]
          exact both_strike (z := 1) (Q := fun r r2 M2 => r = r2 ∧ X ((i : Int) + 6) M2) I (hx _) (by decide) (fun r N B' IN => ⟨rfl, go N B' IN⟩)
      · exact fun _ => both_bars (Q := fun r r2 M2 => r = r2 ∧ X ((i : Int) + 6) M2) I (hx _) (fun r N B' IN => ⟨rfl, go N B' IN⟩)
      · exact fun _ => both_toStrike (Q := fun r r2 M2 => r = r2 ∧ X ((i : Int) + 6) M2) I (hx _) (fun r N B' IN => ⟨rfl, go N B' IN⟩)
      · exact fun _ => both_house (Q := fun r r2 M2 => r = r2 ∧ X ((i : Int) + 6) M2) I (hx _) (hx _) (hx _) (fun r N B' IN => ⟨rfl, go N B' IN⟩)
      · exact fun _ => both_sink (Q := fun r r2 M2 => r = r2 ∧ X ((i : Int) + 6) M2) I (hx _) (hx _) (hx _) (fun r N B' IN => ⟨rfl, go N B' IN⟩)
      · exact fun _ => both_sunk (Q := fun r r2 M2 => r = r2 ∧ X ((i : Int) + 6) M2) I (hx _) (hx _) (hx _) (fun r N B' IN => ⟨rfl, go N B' IN⟩)
      · exact fun _ => both_led (Q := fun r r2 M2 => r = r2 ∧ X ((i : Int) + 6) M2) I (hx _) (hx _) (hx _) (fun r N B' IN => ⟨rfl, go N B' IN⟩)
      · exact fun _ => both_lean (Q := fun r r2 M2 => r = r2 ∧ X ((i : Int) + 6) M2) I (hx _) (hx _) (hx _) (fun r N B' IN => ⟨rfl, go N B' IN⟩)
      · exact fun _ => both_tank (Q := fun r r2 M2 => r = r2 ∧ X ((i : Int) + 6) M2) I (hx _) (hx _) (hx _) (hx _) (fun r N B' IN => ⟨rfl, go N B' IN⟩)
      · exact fun _ => both_floats (Q := fun r r2 M2 => r = r2 ∧ X ((i : Int) + 6) M2) I (hx _) (hx _) (fun r N B' IN => ⟨rfl, go N B' IN⟩)
      · exact fun _ => both_margin (Q := fun r r2 M2 => r = r2 ∧ X ((i : Int) + 6) M2) I (hx _) (hx _) (hx _) (hx _) (hx _) (fun r N B' IN => ⟨rfl, go N B' IN⟩)
      · exact fun _ => both_least (Q := fun r r2 M2 => r = r2 ∧ X ((i : Int) + 6) M2) I (hx _) (hx _) (fun r N B' IN => ⟨rfl, go N B' IN⟩)
      · exact fun _ => both_work (Q := fun r r2 M2 => r = r2 ∧ X ((i : Int) + 6) M2) I (hx _) (hx _) (hx _) (hx _) (fun r N B' IN => ⟨rfl, go N B' IN⟩)
      · exact fun _ => both_stands (Q := fun r r2 M2 => r = r2 ∧ X ((i : Int) + 6) M2) I (hx _) (fun r N B' IN => ⟨rfl, go N B' IN⟩)
      · exact fun _ => both_plan (Q := fun r r2 M2 => r = r2 ∧ X ((i : Int) + 6) M2) I (hx _) (fun r N B' IN => ⟨rfl, go N B' IN⟩)
      · exact fun _ => both_loss (Q := fun r r2 M2 => r = r2 ∧ X ((i : Int) + 6) M2) I (fun r N B' IN => ⟨rfl, go N B' IN⟩)
      · exact fun _ => both_feed (Q := fun r r2 M2 => r = r2 ∧ X ((i : Int) + 6) M2) I (hx _) (fun r N B' IN => ⟨rfl, go N B' IN⟩)
      · exact fun _ => both_read (Q := fun r r2 M2 => r = r2 ∧ X ((i : Int) + 6) M2) I (fun r N B' IN => ⟨rfl, go N B' IN⟩)
      · exact fun _ => both_fault (Q := fun r r2 => r = r2 ∧ X ((i : Int) + 6) M) I (fun r => ⟨rfl, go M B I⟩)
      · exact fun _ => both_rule (Q := fun r r2 => r = r2 ∧ X ((i : Int) + 6) M) I (hx _) (fun r => ⟨rfl, go M B I⟩)
  exact key n 0 M B (by omega) (by omega) I
