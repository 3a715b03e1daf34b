/-! ===== columns with houses; quarrels ===== -/
abbrev nHo (B : Mem) : Nat := (B 23 0).toNat
def wd (B : Mem) (c : Int) : Nat → Int
  | 0 => 0
  | n + 1 => if B 24 n = c then max (wd B c n) (B 25 n) else wd B c n
def hasH (B : Mem) (c : Int) : Prop := ∃ h : Nat, (h : Int) < B 23 0 ∧ B 24 h = c
/-- in some column with a house no choice is kept -/
def qrl (B : Mem) : Prop := ∃ c : Nat, c < 6 ∧ hasH B c ∧ nK B c = 0
section QUARREL
variable {M N B : Mem}
theorem nHo_i (hR : RB B) : ((nHo B : Nat) : Int) = B 23 0 ∧ nHo B ≤ 8 := by
  have := b_houses hR 0
  unfold nHo
  omega
theorem wd_rng (hR : RB B) (c : Int) : ∀ n : Nat, 0 ≤ wd B c n ∧ wd B c n ≤ 60
  | 0 => by unfold wd; omega
  | n + 1 => by
    have h1 := wd_rng hR c n
    have h2 := b_hwid hR n
    unfold wd
    split <;> omega
theorem wd_le (c : Int) : ∀ (n h : Nat), h < n → B 24 h = c → B 25 h ≤ wd B c n
  | 0, h, hh, _ => absurd hh (by omega)
  | n + 1, h, hh, e => by
    unfold wd
    by_cases z : h = n
    · subst z; rw [if_pos e]; omega
    · have := wd_le c n h (by omega) e
      split <;> omega
theorem wd_is (c : Int) : ∀ n : Nat, wd B c n = 0 ∨ ∃ h : Nat, h < n ∧ B 24 h = c ∧ wd B c n = B 25 h
  | 0 => Or.inl rfl
  | n + 1 => by
    unfold wd
    by_cases e : B 24 n = c
    · rw [if_pos e]
      by_cases z : wd B c n ≤ B 25 n
      · exact Or.inr ⟨n, by omega, e, by omega⟩
      · rcases wd_is c n with h | ⟨h, h1, h2, h3⟩
        · exact Or.inl (by omega)
        · exact Or.inr ⟨h, by omega, h2, by omega⟩
    · rw [if_neg e]
      rcases wd_is c n with h | ⟨h, h1, h2, h3⟩
      · exact Or.inl h
      · exact Or.inr ⟨h, by omega, h2, h3⟩
theorem wd_pos (hR : RB B) (hW : WF B) (c : Int) : 0 < wd B c (nHo B) ↔ hasH B c := by
  have hn := nHo_i hR
  constructor
  · intro h
    rcases wd_is (B := B) c (nHo B) with e | ⟨x, h1, h2, h3⟩
    · omega
    · exact ⟨x, by omega, h2⟩
  · rintro ⟨x, h1, h2⟩
    have h3 := wd_le (B := B) c (nHo B) x (by omega) h2
    have h4 := hW.2.2.2.2.2.2.2.2.2.2.2.2.2.2 x (by omega) h1
    omega
theorem widestOn_ok {c : Int} {Q : Int → Prop} (hC : CB M B) (hR : RB B) (hc : R32 c) (kk : Q (wd B c (nHo B))) : w_Houses_widestOn M c Q := by
  have hn := nHo_i hR
  unfold w_Houses_widestOn w_Houses_widestOn_L0
  intro X hX
  have key : ∀ (d i : Nat), i + d = nHo B → X (wd B c i) i := by
    intro d
    induction d with
    | zero =>
      intro i hi
      rw [Nat.add_zero] at hi
      apply hX
      unfold w_Houses_widestOn_B0
      (intro a ea _ _; have ea : a = M 6 3 := ea)
      rw [c_houses hC] at ea
      exact ⟨by omega, fun _ => by rw [hi]; exact kk, fun h => absurd h (by omega)⟩
    | succ d ih =>
      intro i hi
      have st := ih (i + 1) (by omega)
      have hwr := wd_rng hR c i
      have e1 : wd B c (i + 1) = if B 24 i = c then max (wd B c i) (B 25 i) else wd B c i := rfl
      apply hX
      unfold w_Houses_widestOn_B0
      (intro a ea _ _; have ea : a = M 6 3 := ea)
      rw [c_houses hC] at ea
      refine ⟨by omega, fun h => absurd h (by omega), fun _ => ⟨by omega, ?_⟩⟩
      (intro b eb _ _; have eb : b = M 38 i := eb)
      rw [c_hcol hC] at eb
      refine ⟨hc, fun h => ?_, fun h => ⟨by omega, ?_⟩⟩
      · rw [if_neg (by omega)] at e1
        rw [e1] at st
        exact st
      · rw [if_pos (by omega)] at e1
        rw [e1] at st
        (intro w ew _ _; have ew : w = M 39 i := ew)
        rw [c_hwid hC] at ew
        rw [ew]
        exact ⟨by omega, st⟩
  exact key (nHo B) 0 (by omega)
theorem m_hasHouse_ok {c : Int} {Q : Int → Prop} (hM : MB M B) (hR : RB B) (hc : R32 c) (k1 : hasH B c → Q 1) (k0 : ¬ hasH B c → Q 0) : w_m_hasHouse M c Q := by
  have hn := nHo_i hR
  unfold w_m_hasHouse w_m_hasHouse_L0
  intro X hX
  have key : ∀ (d i : Nat) (x : Int), i + d = nHo B → (x = 1 ∧ (∃ h : Nat, h < i ∧ B 24 h = c) ∨ x = 0 ∧ ¬ (∃ h : Nat, h < i ∧ B 24 h = c)) → X x i := by
    intro d
    induction d with
    | zero =>
      intro i x hi hx
      apply hX
      unfold w_m_hasHouse_B0
      (intro a ea _ _; have ea : a = M 12 39 := ea)
      rw [m_houses hM] at ea
      refine ⟨by omega, fun _ => ?_, fun h => absurd h (by omega)⟩
      rcases hx with ⟨rfl, h, h1, h2⟩ | ⟨rfl, hx⟩
      · exact ⟨by decide, k1 ⟨h, by omega, h2⟩⟩
      · exact ⟨by decide, k0 (fun ⟨h, h1, h2⟩ => hx ⟨h, by omega, h2⟩)⟩
    | succ d ih =>
      intro i x hi hx
      apply hX
      unfold w_m_hasHouse_B0
      (intro a ea _ _; have ea : a = M 12 39 := ea)
      rw [m_houses hM] at ea
      refine ⟨by omega, fun h => absurd h (by omega), fun _ => ⟨by omega, fun h => ?_, fun h => ⟨by omega, ?_⟩⟩⟩
      · rcases hx with ⟨rfl, y, h1, h2⟩ | ⟨rfl, hx⟩
        · exact ih (i + 1) 1 (by omega) (Or.inl ⟨rfl, y, by omega, h2⟩)
        · exact absurd rfl h
      · rcases hx with ⟨rfl, y, h1, h2⟩ | ⟨rfl, hx⟩
        · exact absurd h (by decide)
        · (intro b eb _ _; have eb : b = M 83 i := eb)
          rw [m_hcol hM] at eb
          refine ⟨hc, fun e => ih (i + 1) 0 (by omega) (Or.inr ⟨rfl, fun ⟨y, h1, h2⟩ => ?_⟩), fun e => ih (i + 1) 1 (by omega) (Or.inl ⟨rfl, i, by omega, eb.symm.trans e⟩)⟩
          by_cases z : y = i
          · subst z; exact e (eb.trans h2)
          · exact hx ⟨y, by omega, h2⟩
  exact key (nHo B) 0 0 (by omega) (Or.inr ⟨rfl, fun ⟨h, h1, _⟩ => absurd h1 (by omega)⟩)
/-- all columns with houses are looked at -/
def lkd (M B : Mem) : Prop := ∀ c : Nat, c < 6 → hasH B c → M 5 9 / 2 ^ c % 2 = 1
theorem housesQuarrel_ok {Q : Int → Mem → Prop} (I : Inv M B) (k1 : qrl B → ∀ N, Inv N B → Q 1 N) (k0 : ¬ qrl B → ∀ N, Inv N B → lkd N B → Q 0 N) : w_S_housesQuarrel M Q := by
  have hR := I.2.2.1
  have hW := I.2.2.2.1
  unfold w_S_housesQuarrel w_S_housesQuarrel_L0
  intro X hX
  have key : ∀ (d c : Nat) (N : Mem), c + d = 6 → Inv N B → (∀ x : Nat, x < c → hasH B x → N 5 9 / 2 ^ x % 2 = 1) → (¬ ∃ x : Nat, x < c ∧ hasH B x ∧ nK B x = 0) → X c N := by
    intro d
    induction d with
    | zero =>
      intro c N hd IN h1 h2
      rw [Nat.add_zero] at hd
      subst hd
      apply hX
      unfold w_S_housesQuarrel_B0
      exact ⟨by decide, fun _ => k0 h2 N IN h1, fun h => absurd (by decide) h⟩
    | succ d ih =>
      intro c N hd IN h1 h2
      have hwr := wd_rng hR c (nHo B)
      have hwp := wd_pos hR hW c
      apply hX
      unfold w_S_housesQuarrel_B0
      refine ⟨by omega, fun h => absurd h (by omega), fun _ => ?_⟩
      refine widestOn_ok IN.1 hR (by omega) ⟨by omega, fun h => ?_, fun h => ?_⟩
      · have nh : ¬ hasH B c := fun z => by have := hwp.mpr z; omega
        refine ih (c + 1) N (by omega) IN (fun x hx hh => ?_) (fun ⟨x, x1, x2, x3⟩ => ?_)
        · by_cases e : x = c
          · subst e; exact absurd hh nh
          · exact h1 x (by omega) hh
        · by_cases e : x = c
          · subst e; exact nh x2
          · exact h2 ⟨x, by omega, x2, x3⟩
      · have yh : hasH B c := hwp.mp (by omega)
        refine look_all_ok IN (by omega) (fun P p1 p2 p3 p4 => ?_)
        refine countKept_ok p1 (by omega) p2 ?_
        rw [cntN_sm (P := kept B c)]
        have hcb := sm_bd (f := fP (kept B c) on1) (b := 1) (nCh B c) (fun i _ => fP_b1)
        have hnc := nCh_i (c := c) hR hW (by omega) (by omega)
        have hma := many_all (c := c) hR hW (by omega) (by omega)
        show (_ ∧ _)
        refine ⟨by show R32 (sm (fP (kept B c) on1) (nCh B c)); omega, fun hz => ?_, fun hz => k1 ⟨c, by omega, yh, hz⟩ P p1⟩
        refine ih (c + 1) P (by omega) p1 (fun x hx hh => ?_) (fun ⟨x, x1, x2, x3⟩ => ?_)
        · by_cases e : x = c
          · subst e; exact p2
          · exact p4 x (h1 x (by omega) hh)
        · by_cases e : x = c
          · subst e; exact hz x3
          · exact h2 ⟨x, by omega, x2, x3⟩
  exact key 6 0 M (by decide) I (fun x hx => absurd hx (by omega)) (fun ⟨x, hx, _⟩ => absurd hx (by omega))
/-- the model's: all columns with houses are found -/
def fnd (M B : Mem) : Prop := ∀ c : Nat, c < 6 → hasH B c → M 66 c = 1
theorem m_findAllKept_ok {Q : Int → Mem → Prop} (I : Inv M B) (k0 : qrl B → ∀ N, Inv N B → Q 0 N) (k1 : ¬ qrl B → ∀ N, Inv N B → fnd N B → Q 1 N) : w_m_findAllKept M Q := by
  have hR := I.2.2.1
  have hW := I.2.2.2.1
  unfold w_m_findAllKept w_m_findAllKept_L0
  intro X hX
  have key : ∀ (d c : Nat) (x : Int) (N : Mem), c + d = 6 → Inv N B → (x = 0 ∧ qrl B ∨ x = 1 ∧ (∀ x : Nat, x < c → hasH B x → N 66 x = 1) ∧ ¬ ∃ x : Nat, x < c ∧ hasH B x ∧ nK B x = 0) → X x c N := by
    intro d
    induction d with
    | zero =>
      intro c x N hd IN hx
      rw [Nat.add_zero] at hd
      subst hd
      apply hX
      unfold w_m_findAllKept_B0
      refine ⟨by decide, fun _ => ?_, fun h => absurd (by decide) h⟩
      rcases hx with ⟨rfl, hx⟩ | ⟨rfl, h1, h2⟩
      · exact ⟨by decide, k0 hx N IN⟩
      · exact ⟨by decide, k1 h2 N IN h1⟩
    | succ d ih =>
      intro c x N hd IN hx
      apply hX
      unfold w_m_findAllKept_B0
      refine ⟨by omega, fun h => absurd h (by omega), fun _ => ⟨by omega, fun h => ?_, fun h => ?_⟩⟩
      · rcases hx with ⟨rfl, hx⟩ | ⟨rfl, h1, h2⟩
        · exact ih (c + 1) 0 N (by omega) IN (Or.inl ⟨rfl, hx⟩)
        · exact absurd h (by decide)
      · rcases hx with ⟨rfl, hx⟩ | ⟨rfl, h1, h2⟩
        · exact absurd rfl h
        · refine m_hasHouse_ok IN.2.1 hR (by omega) (fun yh => ?_) (fun nh => ?_)
          · (first | refine t1n ?_ | refine t1e ?_)
            refine m_findKept_all_ok IN (by omega) (by omega) (fun P p1 p2 p3 p4 p5 p6 => ?_)
            rw [cntN_sm (P := kept B c)]
            have hcb := sm_bd (f := fP (kept B c) on1) (b := 1) (nCh B c) (fun i _ => fP_b1)
            have hnc := nCh_i (c := c) hR hW (by omega) (by omega)
            have hma := many_all (c := c) hR hW (by omega) (by omega)
            refine ⟨by show R32 (sm (fP (kept B c) on1) (nCh B c)); omega, fun hz => ?_, fun hz => ?_⟩
            · have hz : sm (fP (kept B c) on1) (nCh B c) ≤ 0 := hz
              exact ih (c + 1) 0 P (by omega) p1 (Or.inl ⟨rfl, c, by omega, yh, by show sm (fP (kept B c) on1) (nCh B c) = 0; omega⟩)
            · have hz : ¬ sm (fP (kept B c) on1) (nCh B c) ≤ 0 := hz
              refine ih (c + 1) 1 P (by omega) p1 (Or.inr ⟨rfl, fun x hx hh => ?_, fun ⟨x, x1, x2, x3⟩ => ?_⟩)
              · by_cases e : x = c
                · subst e; exact p2
                · exact p6 x (h1 x (by omega) hh)
              · by_cases e : x = c
                · subst e
                  have x3 : sm (fP (kept B x) on1) (nCh B x) = 0 := x3
                  omega
                · exact h2 ⟨x, by omega, x2, x3⟩
          · (first | refine t0n ?_ | refine t0e ?_)
            refine ih (c + 1) 1 N (by omega) IN (Or.inr ⟨rfl, fun x hx hh => ?_, fun ⟨x, x1, x2, x3⟩ => ?_⟩)
            · by_cases e : x = c
              · subst e; exact absurd hh nh
              · exact h1 x (by omega) hh
            · by_cases e : x = c
              · subst e; exact nh x2
              · exact h2 ⟨x, by omega, x2, x3⟩
  exact key 6 0 1 M (by decide) I (Or.inr ⟨rfl, fun x hx => absurd hx (by omega), fun ⟨x, hx, _⟩ => absurd hx (by omega)⟩)
end QUARREL
