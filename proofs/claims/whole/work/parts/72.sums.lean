/-! ===== sums and bounds over kept choices ===== -/
/-- g where P holds, else 0 -/
noncomputable def fP (P : Int → Prop) (g : Int → Int) (p : Int) : Int := @ite Int (P p) (Classical.propDecidable _) (g p) 0
theorem fP_y {P : Int → Prop} {g : Int → Int} {p : Int} (h : P p) : fP P g p = g p := by unfold fP; exact if_pos h
theorem fP_n {P : Int → Prop} {g : Int → Int} {p : Int} (h : ¬ P p) : fP P g p = 0 := by unfold fP; exact if_neg h
abbrev on1 : Int → Int := fun _ => 1
theorem sm_bd {f : Int → Int} {b : Int} : ∀ n : Nat, (∀ i : Nat, i < n → 0 ≤ f i ∧ f i ≤ b) → 0 ≤ sm f n ∧ sm f n ≤ b * n
  | 0, _ => by unfold sm; omega
  | n + 1, h => by
    have h1 := sm_bd n (fun i hi => h i (by omega))
    have h2 := h n (by omega)
    have e : b * ((n + 1 : Nat) : Int) = b * n + b := by rw [Int.natCast_add, Int.mul_add]; simp
    rw [e]
    unfold sm
    omega
theorem sm_le {f g : Int → Int} : ∀ n : Nat, (∀ i : Nat, i < n → f i ≤ g i) → sm f n ≤ sm g n
  | 0, _ => Int.le_refl _
  | n + 1, h => by
    have h1 := sm_le n (fun i hi => h i (by omega))
    have h2 := h n (by omega)
    unfold sm
    omega
theorem sm_zero {f : Int → Int} : ∀ n : Nat, (∀ i : Nat, i < n → 0 ≤ f i) → sm f n = 0 → ∀ i : Nat, i < n → f i = 0
  | 0, _, _ => fun i hi => absurd hi (by omega)
  | n + 1, h, e => by
    have h1 : 0 ≤ sm f n := by
      have := sm_le (f := fun _ => 0) (g := f) n (fun i hi => h i (by omega))
      have e0 : ∀ m : Nat, sm (fun _ => 0) m = 0 := by
        intro m
        induction m with
        | zero => rfl
        | succ m ih => unfold sm; rw [ih]; rfl
      rw [e0] at this
      exact this
    have h2 := h n (by omega)
    have e : sm f n + f n = 0 := e
    intro i hi
    by_cases z : i = n
    · rw [z]; omega
    · exact sm_zero n (fun i hi => h i (by omega)) (by omega) i (by omega)
theorem sm_all0 {f : Int → Int} : ∀ n : Nat, (∀ i : Nat, i < n → f i = 0) → sm f n = 0
  | 0, _ => rfl
  | n + 1, h => by
    unfold sm
    rw [sm_all0 n (fun i hi => h i (by omega)), h n (by omega)]
    rfl
theorem fP_bd {P : Int → Prop} {g : Int → Int} {p b : Int} (b0 : 0 ≤ b) (h : 0 ≤ g p ∧ g p ≤ b) : 0 ≤ fP P g p ∧ fP P g p ≤ b := by
  by_cases z : P p
  · rw [fP_y z]; exact h
  · rw [fP_n z]; omega
theorem fP_b1 {P : Int → Prop} {p : Int} : 0 ≤ fP P on1 p ∧ fP P on1 p ≤ 1 := fP_bd (by decide) ⟨show (0 : Int) ≤ 1 by decide, show (1 : Int) ≤ 1 by decide⟩
theorem on1_ne {p : Int} : ¬ on1 p = 0 := show ¬ (1 : Int) = 0 by decide
/-- parts of a sum: where S holds, and where it doesn't -/
theorem fP_split {P S : Int → Prop} {g : Int → Int} (p : Int) : fP P g p = fP (fun p => P p ∧ S p) g p + fP (fun p => P p ∧ ¬ S p) g p := by
  by_cases z : P p
  · by_cases s : S p
    · rw [fP_y z, fP_y (P := fun p => P p ∧ S p) ⟨z, s⟩, fP_n (P := fun p => P p ∧ ¬ S p) (fun y => y.2 s), Int.add_zero]
    · rw [fP_y z, fP_n (P := fun p => P p ∧ S p) (fun y => s y.2), fP_y (P := fun p => P p ∧ ¬ S p) ⟨z, s⟩, Int.zero_add]
  · rw [fP_n z, fP_n (P := fun p => P p ∧ S p) (fun y => z y.1), fP_n (P := fun p => P p ∧ ¬ S p) (fun y => z y.1), Int.add_zero]
theorem sm_split {P S : Int → Prop} {g : Int → Int} (n : Nat) : sm (fP P g) n = sm (fP (fun p => P p ∧ S p) g) n + sm (fP (fun p => P p ∧ ¬ S p) g) n := by
  rw [← sm_plus]
  exact sm_cg n (fun i _ => fP_split (S := S) i)
/-- numbers and weights vanish together -/
theorem fP_zero {P : Int → Prop} {w : Int → Int} {n : Nat} (hw : ∀ i : Nat, i < n → P i → 1 ≤ w i) : sm (fP P on1) n = 0 ↔ sm (fP P w) n = 0 := by
  constructor
  · intro h
    refine sm_all0 n (fun i hi => ?_)
    have := sm_zero n (fun i _ => fP_b1.1) h i hi
    by_cases z : P i
    · rw [fP_y z] at this; exact absurd this on1_ne
    · exact fP_n z
  · intro h
    refine sm_all0 n (fun i hi => ?_)
    have h0 : ∀ i : Nat, i < n → 0 ≤ fP P w i := fun i hi => by
      by_cases z : P i
      · rw [fP_y z]; have := hw i hi z; omega
      · rw [fP_n z]; omega
    have := sm_zero n h0 h i hi
    by_cases z : P i
    · rw [fP_y z] at this; have := hw i hi z; omega
    · exact fP_n z
theorem fP_some {P : Int → Prop} {n : Nat} : sm (fP P on1) n ≠ 0 ↔ ∃ i : Nat, i < n ∧ P i := by
  constructor
  · intro h
    obtain ⟨i, h1, h2⟩ := sm_pos n h
    refine ⟨i, h1, Classical.byContradiction (fun z => h2 (fP_n z))⟩
  · rintro ⟨i, h1, h2⟩ h
    have := sm_zero n (fun i _ => fP_b1.1) h i h1
    rw [fP_y h2] at this
    exact absurd this on1_ne
theorem cntN_sm {P : Int → Prop} : ∀ n : Nat, cntN (fun p => P p) n = sm (fP P on1) n
  | 0 => rfl
  | n + 1 => by
    have ih := cntN_sm (P := P) n
    show cntN (fun p => P p) n + _ = sm (fP P on1) n + fP P on1 n
    rw [ih]
    by_cases z : P n
    · rw [if_pos z, fP_y z]
    · rw [if_neg z, fP_n z]
/-- the least of x over D, the greatest -/
def isMn (D : Int → Prop) (x : Int → Int) (r : Int) : Prop := (∃ p, D p ∧ x p = r) ∧ ∀ p, D p → r ≤ x p
def isMx (D : Int → Prop) (x : Int → Int) (r : Int) : Prop := (∃ p, D p ∧ x p = r) ∧ ∀ p, D p → x p ≤ r
theorem isMn.uni {D : Int → Prop} {x : Int → Int} {r r' : Int} (h : isMn D x r) (h' : isMn D x r') : r = r' := by
  obtain ⟨⟨p, p1, p2⟩, a⟩ := h
  obtain ⟨⟨p', p1', p2'⟩, a'⟩ := h'
  have := a p' p1'
  have := a' p p1
  omega
theorem isMx.uni {D : Int → Prop} {x : Int → Int} {r r' : Int} (h : isMx D x r) (h' : isMx D x r') : r = r' := by
  obtain ⟨⟨p, p1, p2⟩, a⟩ := h
  obtain ⟨⟨p', p1', p2'⟩, a'⟩ := h'
  have := a p' p1'
  have := a' p p1
  omega
theorem isMn.cg {D D' : Int → Prop} {x : Int → Int} {r : Int} (h : isMn D x r) (e : ∀ p, D' p ↔ D p) : isMn D' x r := by
  obtain ⟨⟨p, p1, p2⟩, a⟩ := h
  exact ⟨⟨p, (e p).mpr p1, p2⟩, fun p hp => a p ((e p).mp hp)⟩
theorem isMx.cg {D D' : Int → Prop} {x : Int → Int} {r : Int} (h : isMx D x r) (e : ∀ p, D' p ↔ D p) : isMx D' x r := by
  obtain ⟨⟨p, p1, p2⟩, a⟩ := h
  exact ⟨⟨p, (e p).mpr p1, p2⟩, fun p hp => a p ((e p).mp hp)⟩
/-- one more -/
theorem isMn.add {D D' : Int → Prop} {x : Int → Int} {r n : Int} (h : isMn D x r) (e : ∀ p, D' p ↔ D p ∨ p = n) : isMn D' x (min r (x n)) := by
  obtain ⟨⟨p, p1, p2⟩, a⟩ := h
  refine ⟨?_, fun p' hp => ?_⟩
  · by_cases z : r ≤ x n
    · exact ⟨p, (e p).mpr (Or.inl p1), by omega⟩
    · exact ⟨n, (e n).mpr (Or.inr rfl), by omega⟩
  · rcases (e p').mp hp with h | h
    · have := a p' h; omega
    · rw [h]; omega
theorem isMx.add {D D' : Int → Prop} {x : Int → Int} {r n : Int} (h : isMx D x r) (e : ∀ p, D' p ↔ D p ∨ p = n) : isMx D' x (max r (x n)) := by
  obtain ⟨⟨p, p1, p2⟩, a⟩ := h
  refine ⟨?_, fun p' hp => ?_⟩
  · by_cases z : x n ≤ r
    · exact ⟨p, (e p).mpr (Or.inl p1), by omega⟩
    · exact ⟨n, (e n).mpr (Or.inr rfl), by omega⟩
  · rcases (e p').mp hp with h | h
    · have := a p' h; omega
    · rw [h]; omega
theorem isMn.one {D : Int → Prop} {x : Int → Int} {n : Int} (e : ∀ p, D p ↔ p = n) : isMn D x (x n) := ⟨⟨n, (e n).mpr rfl, rfl⟩, fun p hp => by rw [(e p).mp hp]; exact Int.le_refl _⟩
theorem isMx.one {D : Int → Prop} {x : Int → Int} {n : Int} (e : ∀ p, D p ↔ p = n) : isMx D x (x n) := ⟨⟨n, (e n).mpr rfl, rfl⟩, fun p hp => by rw [(e p).mp hp]; exact Int.le_refl _⟩
