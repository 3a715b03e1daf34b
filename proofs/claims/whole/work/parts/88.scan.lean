/-! ===== the text: scanning, words, numbers ===== -/
/-- behind the signs from lo to hi that stand from p on -/
def scn (B : Mem) (lo hi : Int) : Nat → Nat → Nat
  | 0, p => p
  | d + 1, p => if (p : Int) < B 38 0 ∧ lo ≤ B 37 p ∧ B 37 p ≤ hi then scn B lo hi d (p + 1) else p
def sc (B : Mem) (lo hi : Int) (p : Nat) : Nat := scn B lo hi (200 - p) p
abbrev sk (B : Mem) (p : Nat) : Nat := sc B 32 32 p
abbrev we (B : Mem) (p : Nat) : Nat := sc B 97 122 p
abbrev de (B : Mem) (p : Nat) : Nat := sc B 48 57 p
/-- the words, by the place of their constant -/
def wsp : Nat → List Int
  | 0 => [103, 114, 111, 119]
  | 1 => [100, 114, 97, 105, 110]
  | 2 => [112, 97, 115, 115]
  | 3 => [115, 101, 116, 116, 108, 101]
  | 4 => [104, 111, 108, 100]
  | 5 => [100, 114, 121]
  | 6 => [119, 101, 116]
  | 7 => [102, 108, 111, 119]
  | 8 => [109, 97, 114, 107]
  | 9 => [97, 102, 116, 101, 114]
  | 10 => [107, 105, 110, 100]
  | _ => []
/-- a code's constant -/
def sIx (i : Nat) : Nat := if i < 5 then i else if i < 20 then 11 else i - 15
/-- the n signs from p on are the word -/
def mt (B : Mem) (p : Nat) (ls : List Int) (n : Nat) : Prop := n = ls.length ∧ ∀ i : Nat, i < ls.length → B 37 ((p + i : Nat) : Int) = ls.getD i 0
def isSp (B : Mem) (p n i : Nat) : Prop := wsp (sIx i) ≠ [] ∧ mt B p (wsp (sIx i)) n
noncomputable def wcl (B : Mem) (p n : Nat) : Nat → Nat → Int
  | 0, _ => -1
  | d + 1, i => @ite Int (isSp B p n i) (Classical.propDecidable _) i (wcl B p n d (i + 1))
/-- the code of the word of n signs at p -/
noncomputable def wc (B : Mem) (p n : Nat) : Int := wcl B p n 26 0
section SCAN
variable {M N B : Mem}
theorem sc_stop {lo hi : Int} {p : Nat} (h : ¬ ((p : Int) < B 38 0 ∧ lo ≤ B 37 p ∧ B 37 p ≤ hi)) : sc B lo hi p = p := by
  unfold sc
  cases 200 - p with
  | zero => rfl
  | succ d => exact if_neg h
theorem sc_go {lo hi : Int} {p : Nat} (hR : RB B) (h : (p : Int) < B 38 0 ∧ lo ≤ B 37 p ∧ B 37 p ≤ hi) : sc B lo hi p = sc B lo hi (p + 1) := by
  have ht := b_tlen hR 0
  unfold sc
  rw [(show 200 - p = (200 - (p + 1)) + 1 by omega)]
  exact if_pos h
theorem scn_le {lo hi : Int} : ∀ d p : Nat, p ≤ scn B lo hi d p
  | 0, p => Nat.le_refl _
  | d + 1, p => by
    have : p + 1 ≤ scn B lo hi d (p + 1) := scn_le d (p + 1)
    unfold scn
    split <;> omega
theorem scn_L {lo hi : Int} : ∀ d p : Nat, (p : Int) ≤ B 38 0 → (scn B lo hi d p : Int) ≤ B 38 0
  | 0, p, h => h
  | d + 1, p, h => by
    unfold scn
    split
    · rename_i e
      exact scn_L d (p + 1) (by omega)
    · exact h
theorem scn_in {lo hi : Int} : ∀ d p i : Nat, p ≤ i → i < scn B lo hi d p → lo ≤ B 37 i ∧ B 37 i ≤ hi
  | 0, p, i, h1, h2 => absurd h2 (by show ¬ i < p; omega)
  | d + 1, p, i, h1, h2 => by
    unfold scn at h2
    split at h2
    · rename_i e
      by_cases z : i = p
      · rw [z]; exact e.2
      · exact scn_in d (p + 1) i (by omega) h2
    · omega
theorem sc_le {lo hi : Int} (p : Nat) : p ≤ sc B lo hi p := scn_le _ _
theorem sc_L {lo hi : Int} {p : Nat} (h : (p : Int) ≤ B 38 0) : (sc B lo hi p : Int) ≤ B 38 0 := scn_L _ _ h
theorem sc_in {lo hi : Int} {p i : Nat} (h1 : p ≤ i) (h2 : i < sc B lo hi p) : lo ≤ B 37 i ∧ B 37 i ≤ hi := scn_in _ _ _ h1 h2
theorem sc_sc {lo hi : Int} (hR : RB B) : ∀ (d p : Nat), p + d = 200 → (p : Int) ≤ B 38 0 → ¬ ((sc B lo hi p : Int) < B 38 0 ∧ lo ≤ B 37 (sc B lo hi p) ∧ B 37 (sc B lo hi p) ≤ hi)
  | 0, p, hp, _ => by
    have ht := b_tlen hR 0
    have := sc_le (B := B) (lo := lo) (hi := hi) p
    intro h
    omega
  | d + 1, p, hp, hl => by
    by_cases h : (p : Int) < B 38 0 ∧ lo ≤ B 37 p ∧ B 37 p ≤ hi
    · rw [sc_go hR h]
      exact sc_sc hR d (p + 1) (by omega) (by omega)
    · rw [sc_stop h]
      exact h
theorem sc_end {lo hi : Int} (hR : RB B) {p : Nat} (hl : (p : Int) ≤ B 38 0) : ¬ ((sc B lo hi p : Int) < B 38 0 ∧ lo ≤ B 37 (sc B lo hi p) ∧ B 37 (sc B lo hi p) ≤ hi) := by
  have ht := b_tlen hR 0
  exact sc_sc hR (200 - p) p (by omega) hl
theorem sk_le (p : Nat) : p ≤ sk B p := sc_le p
theorem we_le (p : Nat) : p ≤ we B p := sc_le p
theorem de_le (p : Nat) : p ≤ de B p := sc_le p
theorem sk_L {p : Nat} (h : (p : Int) ≤ B 38 0) : (sk B p : Int) ≤ B 38 0 := sc_L h
theorem we_L {p : Nat} (h : (p : Int) ≤ B 38 0) : (we B p : Int) ≤ B 38 0 := sc_L h
theorem de_L {p : Nat} (h : (p : Int) ≤ B 38 0) : (de B p : Int) ≤ B 38 0 := sc_L h
theorem sk_sk (hR : RB B) {p : Nat} (hl : (p : Int) ≤ B 38 0) : sk B (sk B p) = sk B p := sc_stop (sc_end hR hl)
theorem wcl_is (p n : Nat) : ∀ d i : Nat, wcl B p n d i = -1 ∨ ∃ k : Nat, wcl B p n d i = k ∧ i ≤ k ∧ k < i + d ∧ isSp B p n k
  | 0, i => Or.inl rfl
  | d + 1, i => by
    unfold wcl
    by_cases h : isSp B p n i
    · rw [if_pos h]; exact Or.inr ⟨i, rfl, by omega, by omega, h⟩
    · rw [if_neg h]
      rcases wcl_is p n d (i + 1) with e | ⟨k, e1, e2, e3, e4⟩
      · exact Or.inl e
      · exact Or.inr ⟨k, e1, by omega, by omega, e4⟩
theorem wcl_of (p n : Nat) {k : Nat} (hk : isSp B p n k) : ∀ d i : Nat, i ≤ k → k < i + d → (∀ j, j < k → ¬ isSp B p n j) → wcl B p n d i = k
  | 0, i, h1, h2, _ => absurd h2 (by omega)
  | d + 1, i, h1, h2, h3 => by
    unfold wcl
    by_cases e : i = k
    · subst e; rw [if_pos hk]
    · rw [if_neg (h3 i (by omega))]
      exact wcl_of p n hk d (i + 1) (by omega) (by omega) h3
theorem wsp_inj : ∀ i : Nat, i < 26 → ∀ k : Nat, k < 26 → wsp (sIx i) = wsp (sIx k) → wsp (sIx i) ≠ [] → i = k := by decide
theorem list_ext {a b : List Int} (h : a.length = b.length) (h2 : ∀ i : Nat, i < a.length → a.getD i 0 = b.getD i 0) : a = b := by
  refine List.ext_getElem h (fun i h3 h4 => ?_)
  have := h2 i h3
  rw [List.getD_eq_getElem?_getD, List.getD_eq_getElem?_getD, List.getElem?_eq_getElem h3, List.getElem?_eq_getElem h4] at this
  exact this
theorem isSp_uni {p n i k : Nat} (hi : i < 26) (hk : k < 26) (h : isSp B p n i) (h' : isSp B p n k) : i = k := by
  refine wsp_inj i hi k hk (list_ext (by rw [← h.2.1, ← h'.2.1]) (fun j hj => ?_)) h.1
  have h2 := h'.2.1
  have h3 := h.2.1
  rw [← h.2.2 j hj, ← h'.2.2 j (by omega)]
theorem wc_of {p n k : Nat} (hk : k < 26) (h : isSp B p n k) : wc B p n = k := wcl_of p n h 26 0 (by omega) (by omega) (fun j hj z => by have := isSp_uni (by omega) hk z h; omega)
theorem wc_is (p n : Nat) : wc B p n = -1 ∨ ∃ k : Nat, wc B p n = k ∧ k < 26 ∧ isSp B p n k := by
  rcases wcl_is (B := B) p n 26 0 with e | ⟨k, e1, e2, e3, e4⟩
  · exact Or.inl e
  · exact Or.inr ⟨k, e1, by omega, e4⟩
theorem isSp_mid {p n i : Nat} (h1 : 5 ≤ i) (h2 : i < 20) : ¬ isSp B p n i := by
  intro h
  have : sIx i = 11 := by unfold sIx; rw [if_neg (by omega), if_pos h2]
  rw [isSp, this] at h
  exact h.1 rfl
/-- the value of a word's letters, cut off -/
def wv (B : Mem) (p : Nat) : Nat → Int
  | 0 => 0
  | n + 1 => if wv B p n ≤ 10000000000 then 27 * wv B p n + B 37 ((p + n : Nat) : Int) - 96 else 20000000000
def cvf (ls : List Int) : Nat → Int
  | 0 => 0
  | n + 1 => 27 * cvf ls n + ls.getD n 0 - 96
theorem wv_pos {p : Nat} : ∀ n : Nat, (∀ i : Nat, i < n → 97 ≤ B 37 ((p + i : Nat) : Int) ∧ B 37 ((p + i : Nat) : Int) ≤ 122) → (0 ≤ wv B p n ∧ wv B p n ≤ 300000000000) ∧ (0 < n → 0 < wv B p n)
  | 0, _ => by unfold wv; omega
  | n + 1, h => by
    have h1 := wv_pos n (fun i hi => h i (by omega))
    have h2 := h n (by omega)
    unfold wv
    split <;> omega
theorem wv_iff {p : Nat} {ls : List Int} (hl : ∀ i : Nat, i < ls.length → 97 ≤ ls.getD i 0 ∧ ls.getD i 0 ≤ 122) : ∀ (m n : Nat), m ≤ ls.length → (∀ j : Nat, j ≤ m → 0 ≤ cvf ls j ∧ cvf ls j ≤ 10000000000) → (∀ i : Nat, i < n → 97 ≤ B 37 ((p + i : Nat) : Int) ∧ B 37 ((p + i : Nat) : Int) ≤ 122) → (wv B p n = cvf ls m ↔ n = m ∧ ∀ i : Nat, i < m → B 37 ((p + i : Nat) : Int) = ls.getD i 0)
  | 0, n, _, _, ht => by
    have h := wv_pos n ht
    constructor
    · intro e
      have e : wv B p n = 0 := e
      exact ⟨by omega, fun i hi => absurd hi (by omega)⟩
    · rintro ⟨rfl, _⟩; rfl
  | m + 1, 0, hm, hc, _ => by
    have h1 := hc m (by omega)
    have h2 := hl m (by omega)
    have e0 : cvf ls (m + 1) = 27 * cvf ls m + ls.getD m 0 - 96 := rfl
    constructor
    · intro e
      have e : 0 = cvf ls (m + 1) := e
      omega
    · rintro ⟨e, _⟩; exact absurd e (by omega)
  | m + 1, n + 1, hm, hc, ht => by
    have ih := wv_iff hl m n (by omega) (fun j hj => hc j (by omega)) (fun i hi => ht i (by omega))
    have h1 := hc m (by omega)
    have h1' := hc (m + 1) (by omega)
    have h2 := hl m (by omega)
    have h3 := ht n (by omega)
    have e0 : cvf ls (m + 1) = 27 * cvf ls m + ls.getD m 0 - 96 := rfl
    have e1 : wv B p (n + 1) = if wv B p n ≤ 10000000000 then 27 * wv B p n + B 37 ((p + n : Nat) : Int) - 96 else 20000000000 := rfl
    constructor
    · intro e
      rw [e1, e0] at e
      by_cases z : wv B p n ≤ 10000000000
      · rw [if_pos z] at e
        have e2 : wv B p n = cvf ls m := by omega
        have e3 : B 37 ((p + n : Nat) : Int) = ls.getD m 0 := by omega
        obtain ⟨e4, e5⟩ := ih.mp e2
        subst e4
        refine ⟨rfl, fun i hi => ?_⟩
        by_cases y : i = n
        · rw [y]; exact e3
        · exact e5 i (by omega)
      · rw [if_neg z] at e
        omega
    · rintro ⟨e, h⟩
      have e : n = m := by omega
      subst e
      have e2 := ih.mpr ⟨rfl, fun i hi => h i (by omega)⟩
      rw [e1, e2, if_pos h1.2, e0, h n (by omega)]
theorem wsp_ok : ∀ k : Nat, k < 11 → (∀ i : Nat, i < (wsp k).length → 97 ≤ (wsp k).getD i 0 ∧ (wsp k).getD i 0 ≤ 122) ∧ (∀ j : Nat, j ≤ (wsp k).length → 0 ≤ cvf (wsp k) j ∧ cvf (wsp k) j ≤ 10000000000) ∧ wsp k ≠ [] := by decide
/-- the model's word is a word of the table -/
theorem wv_sp {p n i : Nat} (hi : i < 26) (hx : sIx i < 11) (ht : ∀ i : Nat, i < n → 97 ≤ B 37 ((p + i : Nat) : Int) ∧ B 37 ((p + i : Nat) : Int) ≤ 122) : wv B p n = cvf (wsp (sIx i)) (wsp (sIx i)).length ↔ isSp B p n i := by
  have hk := wsp_ok (sIx i) hx
  rw [wv_iff hk.1 _ n (Nat.le_refl _) hk.2.1 ht]
  exact ⟨fun h => ⟨hk.2.2, h.1, h.2⟩, fun h => ⟨h.2.1, h.2.2⟩⟩
/-- the value of digits -/
def nv (B : Mem) (p : Nat) : Nat → Int
  | 0 => 0
  | n + 1 => 10 * nv B p n + B 37 ((p + n : Nat) : Int) - 48
/-- bounds of a rule -/
def loS (s : Int) : Int := if s = 20 ∨ s = 21 ∨ s = 23 then 1 else 0
def hiS (s : Int) : Int := if s < 20 then (if s % 5 = 1 then 999 else if s % 5 = 2 then 100 else 99) else if s = 22 then 100 else if s = 24 then 30 else 99
def fiS (s : Int) : Int := if s < 20 then (if s % 5 = 0 then 20 else if s % 5 = 1 then 50 else if s % 5 = 2 then 90 else if s % 5 = 3 then 10 else 60) else if s = 20 then 18 else if s = 21 then 9 else if s = 22 then 40 else if s = 23 then 5 else 0
theorem tabS : ∀ s : Nat, s < 25 → (stT 0).getD (Int.toNat (if (20 : Int) ≤ s then (s : Int) - 20 + 5 else (s : Int) % 5)) 0 = fiS s ∧ (stT 1).getD (Int.toNat (if (20 : Int) ≤ s then (s : Int) - 20 + 5 else (s : Int) % 5)) 0 = loS s ∧ (stT 2).getD (Int.toNat (if (20 : Int) ≤ s then (s : Int) - 20 + 5 else (s : Int) % 5)) 0 = hiS s := by decide
theorem entry_ok {s : Nat} {Q : Int → Prop} (hs : s < 25) (kk : Q (if (20 : Int) ≤ s then (s : Int) - 20 + 5 else (s : Int) % 5)) : w_Rules_entry M s Q := by
  unfold w_Rules_entry
  refine ⟨by omega, fun h => ?_, fun h => ⟨by omega, ?_⟩⟩
  · rw [if_pos h] at kk; exact kk
  · rw [if_neg h] at kk; exact kk
theorem ent_rng (s : Nat) (hs : s < 25) : 0 ≤ (if (20 : Int) ≤ s then (s : Int) - 20 + 5 else (s : Int) % 5) ∧ (if (20 : Int) ≤ s then (s : Int) - 20 + 5 else (s : Int) % 5) < 10 := by
  split <;> omega
theorem first_ok {s : Nat} {Q : Int → Prop} (hs : s < 25) (kk : Q (fiS s)) : w_Rules_first M s Q := by
  unfold w_Rules_first
  refine entry_ok hs ⟨ent_rng s hs, ?_⟩
  rw [(tabS s hs).1]
  exact kk
theorem lowest_ok {s : Nat} {Q : Int → Prop} (hs : s < 25) (kk : Q (loS s)) : w_Rules_lowest M s Q := by
  unfold w_Rules_lowest
  refine entry_ok hs ⟨ent_rng s hs, ?_⟩
  rw [(tabS s hs).2.1]
  exact kk
theorem highest_ok {s : Nat} {Q : Int → Prop} (hs : s < 25) (kk : Q (hiS s)) : w_Rules_highest M s Q := by
  unfold w_Rules_highest
  refine entry_ok hs ⟨ent_rng s hs, ?_⟩
  rw [(tabS s hs).2.2]
  exact kk
theorem bdS : ∀ s : Nat, s < 25 → (0 ≤ loS s ∧ loS s ≤ 1) ∧ (30 ≤ hiS s ∧ hiS s ≤ 999) ∧ (loS s ≤ fiS s ∧ fiS s ≤ hiS s) := by decide
theorem m_leastOf_ok {s : Int} {Q : Int → Prop} (hs : R32 s) (kk : Q (loS s)) : w_m_leastOf M s Q := by
  unfold w_m_leastOf
  unfold loS at kk
  refine ⟨hs, fun h => ?_, fun h => ⟨hs, fun h2 => ?_, fun h2 => ⟨hs, fun h3 => ?_, fun h3 => ?_⟩⟩⟩
  · rw [if_pos (Or.inl h)] at kk; exact kk
  · rw [if_pos (Or.inr (Or.inl h2))] at kk; exact kk
  · rw [if_neg (by omega)] at kk; exact kk
  · rw [if_pos (Or.inr (Or.inr h3))] at kk; exact kk
theorem m_mostOf_ok {s : Int} {Q : Int → Prop} (hs : R32 s) (s0 : 0 ≤ s) (kk : Q (hiS s)) : w_m_mostOf M s Q := by
  unfold w_m_mostOf
  unfold hiS at kk
  refine ⟨hs, fun h => ⟨hs, fun h2 => ⟨hs, fun h3 => ?_, fun h3 => ?_⟩, fun h2 => ?_⟩, fun h => ⟨by omega, fun h2 => ⟨by omega, fun h3 => ?_, fun h3 => ?_⟩, fun h2 => ?_⟩⟩
  · rw [if_neg (by omega), if_neg h2, if_neg h3] at kk; exact kk
  · rw [if_neg (by omega), if_neg h2, if_pos h3] at kk; exact kk
  · rw [if_neg (by omega), if_pos h2] at kk; exact kk
  · rw [if_pos (by omega), if_neg h2, if_neg h3] at kk; exact kk
  · rw [if_pos (by omega), if_neg h2, if_pos h3] at kk; exact kk
  · rw [if_pos (by omega), if_pos h2] at kk; exact kk
/-- the model's codes of words -/
def codeV (a b c d e f : Int) : Int :=
  (fun v5 => if f = 0 then v5 else 27 * v5 + f - 96) ((fun v4 => if e = 0 then v4 else 27 * v4 + e - 96) (if d = 0 then 27 * (27 * (27 * (a - 96) + b - 96) + c - 96) / 27 else 27 * (27 * (27 * (a - 96) + b - 96) + c - 96) + d - 96))
theorem m_code_ok {a b c d e f : Int} {Q : Int → Prop} (ha : 97 ≤ a ∧ a ≤ 122) (hb : 97 ≤ b ∧ b ≤ 122) (hc : 97 ≤ c ∧ c ≤ 122) (hd : 0 ≤ d ∧ d ≤ 122) (he : 0 ≤ e ∧ e ≤ 122) (hf : 0 ≤ f ∧ f ≤ 122) (kk : Q (codeV a b c d e f)) : w_m_code M a b c d e f Q := by
  unfold codeV at kk
  have J1 : ∀ v, Q (if f = 0 then v else 27 * v + f - 96) → w_m_code_j1 Q f v M := by
    intro v hv
    unfold w_m_code_j1
    refine ⟨by omega, fun h => ⟨by omega, ?_⟩, fun h => ?_⟩
    · rw [if_neg h] at hv; exact hv
    · rw [if_pos h] at hv; exact hv
  have J0 : ∀ v, Q ((fun v5 => if f = 0 then v5 else 27 * v5 + f - 96) (if e = 0 then v else 27 * v + e - 96)) → w_m_code_j0 Q e f v M := by
    intro v hv
    unfold w_m_code_j0
    refine ⟨by omega, fun h => ⟨by omega, J1 _ ?_⟩, fun h => J1 _ ?_⟩
    · rw [if_neg h] at hv; exact hv
    · rw [if_pos h] at hv; exact hv
  unfold w_m_code
  refine ⟨by omega, by omega, by omega, by omega, fun h => ⟨by omega, J0 _ ?_⟩, fun h => ⟨by omega, J0 _ ?_⟩⟩
  · rw [if_neg h] at kk; exact kk
  · rw [if_pos h] at kk; exact kk
end SCAN
