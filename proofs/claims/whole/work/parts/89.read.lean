/-! ===== reading: what a text says ===== -/
/-- fault, its place, where it ends, the draft -/
abbrev Res : Type := Int × Int × Nat × (Int → Int)
def putD (D : Int → Int) (i v : Int) : Int → Int := fun j => if j = i then v else D j
abbrev numS (B : Mem) (p : Nat) : Nat := sk B p
abbrev numE (B : Mem) (p : Nat) : Nat := de B (sk B p)
def numV (B : Mem) (p : Nat) : Int := nv B (sk B p) (de B (sk B p) - sk B p)
def numF (B : Mem) (p : Nat) (lo hi : Int) : Int := if de B (sk B p) = sk B p then 1 else if 3 < de B (sk B p) - sk B p ∨ numV B p < lo ∨ hi < numV B p then 2 else 0
def rul (B : Mem) (p : Nat) (s : Int) (D : Int → Int) : Res := if numF B p (loS s) (hiS s) = 0 then (0, 0, numE B p, putD D s (numV B p)) else (numF B p (loS s) (hiS s), (sk B p : Nat), numE B p, D)
def endc (B : Mem) (r : Res) : Res := if r.1 = 0 then (if (sk B r.2.2.1 : Int) < B 38 0 ∧ B 37 (sk B r.2.2.1) = 59 then (0, 0, sk B r.2.2.1 + 1, r.2.2.2) else (1, (sk B r.2.2.1 : Nat), sk B r.2.2.1, r.2.2.2)) else r
abbrev ltr (B : Mem) (q : Nat) : Prop := (q : Int) < B 38 0 ∧ 97 ≤ B 37 q ∧ B 37 q ≤ 122
noncomputable def kl (B : Mem) (kd : Int) : Nat → Nat → Nat → (Int → Int) → Res
  | 0, _, p, D => (3, 0, p, D)
  | d + 1, seen, p, D =>
    if 0 ≤ wc B (sk B p) (we B (sk B p) - sk B p) ∧ wc B (sk B p) (we B (sk B p) - sk B p) < 5 then
      (if seen.testBit (wc B (sk B p) (we B (sk B p) - sk B p)).toNat = true then (3, (sk B p : Nat), sk B p, D)
       else (if (rul B (we B (sk B p)) (kd * 5 + wc B (sk B p) (we B (sk B p) - sk B p)) D).1 = 0 ∧ ltr B (sk B (rul B (we B (sk B p)) (kd * 5 + wc B (sk B p) (we B (sk B p) - sk B p)) D).2.2.1)
             then kl B kd d (seen ||| 2 ^ (wc B (sk B p) (we B (sk B p) - sk B p)).toNat) (rul B (we B (sk B p)) (kd * 5 + wc B (sk B p) (we B (sk B p) - sk B p)) D).2.2.1 (rul B (we B (sk B p)) (kd * 5 + wc B (sk B p) (we B (sk B p) - sk B p)) D).2.2.2
             else rul B (we B (sk B p)) (kd * 5 + wc B (sk B p) (we B (sk B p) - sk B p)) D))
    else (1, (sk B p : Nat), sk B p, D)
noncomputable def knd (B : Mem) (p : Nat) (D : Int → Int) : Res := if numF B p 0 3 = 0 then kl B (numV B p) 6 0 (numE B p) D else (numF B p 0 3, (sk B p : Nat), numE B p, D)
noncomputable def cls (B : Mem) (n : Int) (s : Nat) (D : Int → Int) : Res :=
  if wc B s (we B s - s) < 20 then (1, (s : Int), s, D) else if 12 ≤ n then (4, (s : Int), s, D)
  else endc B (if wc B s (we B s - s) = 25 then knd B (we B s) D else rul B (we B s) (wc B s (we B s - s)) D)
noncomputable def prs (B : Mem) : Nat → Int → Nat → (Int → Int) → Int × Res
  | 0, n, p, D => (n, 0, -1, p, D)
  | d + 1, n, p, D => if (p : Int) < B 38 0 then (if (cls B n p D).1 = 0 then prs B d (n + 1) (sk B (cls B n p D).2.2.1) (cls B n p D).2.2.2 else (n, cls B n p D)) else (n, 0, -1, p, D)
/-- the draft keeps the bounds -/
def okDr (D : Int → Int) : Prop := ∀ s : Nat, s < 25 → loS s ≤ D s ∧ D s ≤ hiS s
def pc5 (s : Nat) : Nat := (if s.testBit 0 then 1 else 0) + (if s.testBit 1 then 1 else 0) + (if s.testBit 2 then 1 else 0) + (if s.testBit 3 then 1 else 0) + (if s.testBit 4 then 1 else 0)
theorem pc5_le (s : Nat) : pc5 s ≤ 5 := by
  unfold pc5
  split <;> split <;> split <;> split <;> split <;> decide
theorem pc5_add : ∀ s : Nat, s < 32 → ∀ c : Nat, c < 5 → ¬ s.testBit c = true → pc5 (s ||| 2 ^ c) = pc5 s + 1 ∧ s ||| 2 ^ c < 32 := by decide
section READ
variable {M N B : Mem}
theorem numF_is (B : Mem) (p : Nat) (lo hi : Int) : numF B p lo hi = 0 ∨ numF B p lo hi = 1 ∨ numF B p lo hi = 2 := by
  unfold numF
  split
  · exact Or.inr (Or.inl rfl)
  · split
    · exact Or.inr (Or.inr rfl)
    · exact Or.inl rfl
theorem numV_in {p : Nat} {lo hi : Int} (h : numF B p lo hi = 0) : lo ≤ numV B p ∧ numV B p ≤ hi := by
  unfold numF at h
  split at h
  · exact absurd h (by decide)
  · split at h
    · exact absurd h (by decide)
    · rename_i e1 e2
      omega
theorem numE_ok (hR : RB B) {p : Nat} (hp : (p : Int) ≤ B 38 0) : p ≤ numE B p ∧ (numE B p : Int) ≤ B 38 0 := by
  have h1 := sk_le (B := B) p
  have h2 := de_le (B := B) (sk B p)
  have h3 : (numE B p : Int) ≤ B 38 0 := de_L (sk_L hp)
  exact ⟨by show p ≤ de B (sk B p); omega, h3⟩
theorem rul_pos (hR : RB B) {p : Nat} {s : Int} {D : Int → Int} (hp : (p : Int) ≤ B 38 0) : p ≤ (rul B p s D).2.2.1 ∧ ((rul B p s D).2.2.1 : Int) ≤ B 38 0 := by
  have := numE_ok hR hp
  unfold rul
  split <;> exact this
theorem rul_dr {p s : Nat} {D : Int → Int} (hs : s < 25) (h : okDr D) : okDr (rul B p s D).2.2.2 := by
  unfold rul
  split
  · rename_i e
    intro t ht
    show loS t ≤ putD D s (numV B p) t ∧ putD D s (numV B p) t ≤ hiS t
    unfold putD
    by_cases z : (t : Int) = s
    · rw [if_pos z, z]; exact numV_in e
    · rw [if_neg z]; exact h t ht
  · exact h
theorem kl_ok (hR : RB B) {kd : Int} (hk : 0 ≤ kd ∧ kd ≤ 3) : ∀ (d seen p : Nat) (D : Int → Int), (p : Int) ≤ B 38 0 → okDr D → (p ≤ (kl B kd d seen p D).2.2.1 ∧ ((kl B kd d seen p D).2.2.1 : Int) ≤ B 38 0) ∧ okDr (kl B kd d seen p D).2.2.2
  | 0, _, p, D, hp, hD => ⟨⟨Nat.le_refl _, hp⟩, hD⟩
  | d + 1, seen, p, D, hp, hD => by
    unfold kl
    split
    · rename_i e
      generalize wc B (sk B p) (we B (sk B p) - sk B p) = c at e ⊢
      have h1 := sk_le (B := B) p
      have h2 := we_le (B := B) (sk B p)
      have h3 : (we B (sk B p) : Int) ≤ B 38 0 := sc_L (sc_L hp)
      have h4 := rul_pos hR (s := kd * 5 + c) (D := D) h3
      have h5 : okDr (rul B (we B (sk B p)) (kd * 5 + c) D).2.2.2 := by
        have := rul_dr (B := B) (p := we B (sk B p)) (s := (kd * 5 + c).toNat) (D := D) (by omega) hD
        rw [(show (((kd * 5 + c).toNat : Nat) : Int) = kd * 5 + c by omega)] at this
        exact this
      split
      · exact ⟨⟨sk_le p, sk_L hp⟩, hD⟩
      · split
        · have ih := kl_ok hR hk d (seen ||| 2 ^ c.toNat) (rul B (we B (sk B p)) (kd * 5 + c) D).2.2.1 (rul B (we B (sk B p)) (kd * 5 + c) D).2.2.2 h4.2 h5
          exact ⟨⟨by omega, ih.1.2⟩, ih.2⟩
        · exact ⟨⟨by omega, h4.2⟩, h5⟩
    · exact ⟨⟨sk_le p, sk_L hp⟩, hD⟩
theorem knd_ok (hR : RB B) {p : Nat} {D : Int → Int} (hp : (p : Int) ≤ B 38 0) (hD : okDr D) : (p ≤ (knd B p D).2.2.1 ∧ ((knd B p D).2.2.1 : Int) ≤ B 38 0) ∧ okDr (knd B p D).2.2.2 := by
  have h := numE_ok hR hp
  unfold knd
  split
  · rename_i e
    have := kl_ok hR (numV_in e) 6 0 (numE B p) D h.2 hD
    exact ⟨⟨by omega, this.1.2⟩, this.2⟩
  · exact ⟨h, hD⟩
theorem endc_ok {r : Res} (hp : (r.2.2.1 : Int) ≤ B 38 0) (hD : okDr r.2.2.2) (h : (endc B r).1 = 0) : r.2.2.1 < (endc B r).2.2.1 ∧ ((endc B r).2.2.1 : Int) ≤ B 38 0 ∧ okDr (endc B r).2.2.2 := by
  have h1 := sk_le (B := B) r.2.2.1
  unfold endc at h ⊢
  split at h
  · rename_i e
    rw [if_pos e]
    split at h
    · rename_i e2
      rw [if_pos e2]
      exact ⟨by show r.2.2.1 < sk B r.2.2.1 + 1; omega, by show ((sk B r.2.2.1 + 1 : Nat) : Int) ≤ B 38 0; omega, hD⟩
    · exact absurd h (show ¬ (1 : Int) = 0 by decide)
  · rename_i e
    exact absurd h e
theorem cls_ok (hR : RB B) {n : Int} {s : Nat} {D : Int → Int} (hs : (s : Int) ≤ B 38 0) (hD : okDr D) (h : (cls B n s D).1 = 0) : s < (cls B n s D).2.2.1 ∧ ((cls B n s D).2.2.1 : Int) ≤ B 38 0 ∧ okDr (cls B n s D).2.2.2 := by
  have h2 := we_le (B := B) s
  have h3 : (we B s : Int) ≤ B 38 0 := sc_L hs
  have hw := wc_is (B := B) s (we B s - s)
  unfold cls at h ⊢
  split at h
  · exact absurd h (show ¬ (1 : Int) = 0 by decide)
  · rename_i e1
    rw [if_neg e1]
    split at h
    · exact absurd h (show ¬ (4 : Int) = 0 by decide)
    · rename_i e2
      rw [if_neg e2]
      split at h
      · rename_i e3
        rw [if_pos e3]
        have k := knd_ok hR (D := D) h3 hD
        have := endc_ok k.1.2 k.2 h
        exact ⟨by omega, this.2⟩
      · rename_i e3
        rw [if_neg e3]
        have k1 := rul_pos hR (s := wc B s (we B s - s)) (D := D) h3
        have k2 : okDr (rul B (we B s) (wc B s (we B s - s)) D).2.2.2 := by
          rcases hw with z | ⟨k, z1, z2, z3⟩
          · exact absurd z (by omega)
          · rw [z1]
            exact rul_dr (by omega) hD
        have := endc_ok k1.2 k2 h
        exact ⟨by omega, this.2⟩
theorem prs_ok (hR : RB B) : ∀ (d : Nat) (n : Int) (p : Nat) (D : Int → Int), (p : Int) ≤ B 38 0 → okDr D → (prs B d n p D).2.1 = 0 → okDr (prs B d n p D).2.2.2.2
  | 0, n, p, D, _, hD, _ => hD
  | d + 1, n, p, D, hp, hD, h => by
    unfold prs at h ⊢
    split at h
    · rename_i e
      rw [if_pos e]
      split at h
      · rename_i e2
        rw [if_pos e2]
        have := cls_ok hR hp hD e2
        exact prs_ok hR d (n + 1) _ _ (sc_L this.2.1) this.2.2 h
      · rename_i e2
        exact absurd h e2
    · rename_i e
      rw [if_neg e]
      exact hD
end READ
