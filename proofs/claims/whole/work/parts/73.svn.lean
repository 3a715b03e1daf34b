/-! ===== the class's survey behind n turns ===== -/
/-- the places told by the first n turns, of those in P -/
def tld (pl : Int → Int) (P : Int → Prop) (n : Nat) (p : Int) : Prop := P p ∧ ∃ m : Nat, m < n ∧ pl m = p
theorem tld_some {pl : Int → Int} {P : Int → Prop} {n : Nat} : sm (fun i => fP P on1 (pl i)) n ≠ 0 ↔ ∃ p, tld pl P n p := by
  have e : sm (fun i => fP P on1 (pl i)) n = sm (fP (fun i => P (pl i)) on1) n := sm_cg n (fun i _ => by
    by_cases z : P (pl i)
    · rw [fP_y z, fP_y (P := fun i => P (pl i)) z]
    · rw [fP_n z, fP_n (P := fun i => P (pl i)) z])
  rw [e, fP_some]
  constructor
  · rintro ⟨i, h1, h2⟩; exact ⟨pl i, h2, i, h1, rfl⟩
  · rintro ⟨p, h1, i, h2, h3⟩; exact ⟨i, h2, by rw [h3]; exact h1⟩
theorem tld_add {pl : Int → Int} {P : Int → Prop} {n : Nat} (h : P (pl n)) (p : Int) : tld pl P (n + 1) p ↔ tld pl P n p ∨ p = pl n := by
  constructor
  · rintro ⟨h1, m, h2, h3⟩
    by_cases e : m = n
    · subst e; exact Or.inr h3.symm
    · exact Or.inl ⟨h1, m, by omega, h3⟩
  · rintro (⟨h1, m, h2, h3⟩ | h1)
    · exact ⟨h1, m, by omega, h3⟩
    · rw [h1]; exact ⟨h, n, by omega, rfl⟩
theorem tld_not {pl : Int → Int} {P : Int → Prop} {n : Nat} (h : ¬ P (pl n)) (p : Int) : tld pl P (n + 1) p ↔ tld pl P n p := by
  constructor
  · rintro ⟨h1, m, h2, h3⟩
    by_cases e : m = n
    · subst e; rw [h3] at h; exact absurd h1 h
    · exact ⟨h1, m, by omega, h3⟩
  · rintro ⟨h1, m, h2, h3⟩; exact ⟨h1, m, by omega, h3⟩
def SvN (M : Mem) (mk : Int) (P : Int → Prop) (x w pl : Int → Int) (n : Nat) : Prop :=
  ∃ lo hi ls : Int, Sv M mk (sm (fun i => fP P on1 (pl i)) n) (sm (fun i => fP (fun p => P p ∧ mk ≤ x p) on1 (pl i)) n) (sm (fun i => fP P w (pl i)) n) (sm (fun i => fP (fun p => P p ∧ mk ≤ x p) w (pl i)) n) lo hi ls ∧
    ((∃ p, tld pl P n p) → isMn (tld pl P n) x lo ∧ isMx (tld pl P n) x hi) ∧ ((∃ p, tld pl (fun p => P p ∧ mk ≤ x p) n p) → isMn (tld pl (fun p => P p ∧ mk ≤ x p) n) x ls)
theorem Sv.fr {M N : Mem} {mk K S W V lo hi ls : Int} (h : Sv M mk K S W V lo hi ls) (e : N 9 = M 9) : Sv N mk K S W V lo hi ls := by
  unfold Sv
  rw [e]
  exact h
theorem SvN.fr {M N : Mem} {mk : Int} {P : Int → Prop} {x w pl : Int → Int} {n : Nat} (h : SvN M mk P x w pl n) (e : N 9 = M 9) : SvN N mk P x w pl n := by
  obtain ⟨lo, hi, ls, h1, h2⟩ := h
  exact ⟨lo, hi, ls, h1.fr e, h2⟩
theorem SvN.start {M : Mem} {mk : Int} {P : Int → Prop} {x w pl : Int → Int} (h : Sv M mk 0 0 0 0 0 0 0) : SvN M mk P x w pl 0 :=
  ⟨0, 0, 0, h, fun ⟨p, _, m, z, _⟩ => absurd z (by omega), fun ⟨p, _, m, z, _⟩ => absurd z (by omega)⟩
theorem SvN.skip {M : Mem} {mk : Int} {P : Int → Prop} {x w pl : Int → Int} {n : Nat} (h : SvN M mk P x w pl n) (hn : ¬ P (pl n)) : SvN M mk P x w pl (n + 1) := by
  obtain ⟨lo, hi, ls, h1, h2, h3⟩ := h
  have hn2 : ¬ (P (pl n) ∧ mk ≤ x (pl n)) := fun z => hn z.1
  refine ⟨lo, hi, ls, ?_, fun ⟨p, hp⟩ => ?_, fun ⟨p, hp⟩ => ?_⟩
  · unfold sm
    rw [fP_n hn, fP_n hn, fP_n (P := fun p => P p ∧ mk ≤ x p) hn2, fP_n (P := fun p => P p ∧ mk ≤ x p) hn2, Int.add_zero, Int.add_zero, Int.add_zero, Int.add_zero]
    exact h1
  · have := h2 ⟨p, (tld_not hn p).mp hp⟩
    exact ⟨this.1.cg (tld_not hn), this.2.cg (tld_not hn)⟩
  · exact (h3 ⟨p, (tld_not (P := fun p => P p ∧ mk ≤ x p) hn2 p).mp hp⟩).cg (tld_not (P := fun p => P p ∧ mk ≤ x p) hn2)
theorem SvN_add_ok {M : Mem} {mk a b : Int} {P : Int → Prop} {x w pl : Int → Int} {n : Nat} {Q : Mem → Prop} (H : SvN M mk P x w pl n) (hP : P (pl n)) (hn : n < 729) (ha : a = x (pl n)) (hb : b = w (pl n)) (hx : -1 ≤ x (pl n) ∧ x (pl n) ≤ 100000) (hw : ∀ i : Nat, i ≤ n → 0 ≤ w (pl i) ∧ w (pl i) ≤ 531441)
    (kk : ∀ N, SvN N mk P x w pl (n + 1) → (∀ h, h ≠ 9 → N h = M h) → Q N) : w_Survey_add M a b Q := by
  obtain ⟨lo, hi, ls, h1, h2, h3⟩ := H
  subst ha
  subst hb
  have k1 := sm_bd (f := fun i => fP P on1 (pl i)) (b := 1) n (fun i _ => fP_b1)
  have k2 := sm_bd (f := fun i => fP (fun p => P p ∧ mk ≤ x p) on1 (pl i)) (b := 1) n (fun i _ => fP_b1)
  have k3 := sm_bd (f := fun i => fP P w (pl i)) (b := 531441) n (fun i hi => fP_bd (by decide) (hw i (by omega)))
  have k4 := sm_bd (f := fun i => fP (fun p => P p ∧ mk ≤ x p) w (pl i)) (b := 531441) n (fun i hi => fP_bd (by decide) (hw i (by omega)))
  have k5 : sm (fun i => fP (fun p => P p ∧ mk ≤ x p) on1 (pl i)) n ≤ sm (fun i => fP P on1 (pl i)) n := sm_le n (fun i _ => by
    show fP (fun p => P p ∧ mk ≤ x p) on1 (pl i) ≤ fP P on1 (pl i)
    by_cases z : P (pl i)
    · rw [fP_y z]; exact fP_b1.2
    · rw [fP_n z, fP_n (P := fun p => P p ∧ mk ≤ x p) (fun y => z y.1)]; exact Int.le_refl _)
  have e1 := tld_some (pl := pl) (P := P) (n := n)
  have e2 := tld_some (pl := pl) (P := fun p => P p ∧ mk ≤ x p) (n := n)
  refine Survey_add_ok h1 hx (hw n (Nat.le_refl _)) (by omega) (by omega) (by omega) (by omega) (fun N n1 n2 => kk N ?_ n2)
  refine ⟨(if sm (fun i => fP P on1 (pl i)) n = 0 then x (pl n) else min lo (x (pl n))), (if sm (fun i => fP P on1 (pl i)) n = 0 then x (pl n) else max hi (x (pl n))), (if mk ≤ x (pl n) then (if sm (fun i => fP (fun p => P p ∧ mk ≤ x p) on1 (pl i)) n = 0 then x (pl n) else min ls (x (pl n))) else ls), ?_, fun _ => ?_, fun hex => ?_⟩
  · have u : ∀ f : Int → Int, sm f (n + 1) = sm f n + f n := fun _ => rfl
    rw [u, u, u, u]
    show Sv N mk (_ + fP P on1 (pl n)) (_ + fP (fun p => P p ∧ mk ≤ x p) on1 (pl n)) (_ + fP P w (pl n)) (_ + fP (fun p => P p ∧ mk ≤ x p) w (pl n)) _ _ _
    rw [fP_y hP, fP_y hP]
    by_cases z : mk ≤ x (pl n)
    · rw [fP_y (P := fun p => P p ∧ mk ≤ x p) ⟨hP, z⟩, fP_y (P := fun p => P p ∧ mk ≤ x p) ⟨hP, z⟩]
      simp only [if_pos z] at n1 ⊢
      exact n1
    · rw [fP_n (P := fun p => P p ∧ mk ≤ x p) (fun y => z y.2), fP_n (P := fun p => P p ∧ mk ≤ x p) (fun y => z y.2), Int.add_zero, Int.add_zero]
      simp only [if_neg z] at n1 ⊢
      exact n1
  · by_cases z : sm (fun i => fP P on1 (pl i)) n = 0
    · have none : ∀ p, ¬ tld pl P n p := fun p hp => e1.mpr ⟨p, hp⟩ z
      have one : ∀ p, tld pl P (n + 1) p ↔ p = pl n := fun p => (tld_add hP p).trans ⟨fun y => y.elim (fun y => absurd y (none p)) id, Or.inr⟩
      rw [if_pos z, if_pos z]
      exact ⟨isMn.one one, isMx.one one⟩
    · have := h2 (e1.mp z)
      rw [if_neg z, if_neg z]
      exact ⟨this.1.add (tld_add hP), this.2.add (tld_add hP)⟩
  · by_cases y : mk ≤ x (pl n)
    · rw [if_pos y]
      have hP2 : P (pl n) ∧ mk ≤ x (pl n) := ⟨hP, y⟩
      by_cases z : sm (fun i => fP (fun p => P p ∧ mk ≤ x p) on1 (pl i)) n = 0
      · have none : ∀ p, ¬ tld pl (fun p => P p ∧ mk ≤ x p) n p := fun p hp => e2.mpr ⟨p, hp⟩ z
        rw [if_pos z]
        exact isMn.one (fun p => (tld_add (P := fun p => P p ∧ mk ≤ x p) hP2 p).trans ⟨fun y => y.elim (fun y => absurd y (none p)) id, Or.inr⟩)
      · rw [if_neg z]
        exact (h3 (e2.mp z)).add (tld_add (P := fun p => P p ∧ mk ≤ x p) hP2)
    · rw [if_neg y]
      have hn2 : ¬ (P (pl n) ∧ mk ≤ x (pl n)) := fun z => y z.2
      obtain ⟨p, hp⟩ := hex
      exact (h3 ⟨p, (tld_not (P := fun p => P p ∧ mk ≤ x p) hn2 p).mp hp⟩).cg (tld_not (P := fun p => P p ∧ mk ≤ x p) hn2)
