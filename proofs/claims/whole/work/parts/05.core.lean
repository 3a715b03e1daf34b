/-! ===== MEMORY: a number for each place of each handle; values; the world that a memory pictures ===== -/
abbrev Mem : Type := Nat → Int → Int
abbrev RV : Type := Int ⊕ (Int ⊕ Nat)
abbrev vI (z : Int) : RV := .inl z
abbrev vJ (z : Int) : RV := .inr (.inl z)
abbrev vR (h : Nat) : RV := .inr (.inr h)
def cV (ad : Nat → Nat) : RV → Value
  | .inl z => .int (Int32.ofInt z)
  | .inr (.inl z) => .long (Int64.ofInt z)
  | .inr (.inr h) => .ref (ad h)
def cL (ad : Nat → Nat) (q : Nat × RV) : Nat × Value := (q.1, cV ad q.2)
def mset (M : Mem) (h : Nat) (i z : Int) : Mem := fun h' => if h' = h then (fun j => if j = i then z else M h j) else M h'
theorem mset_ne {M : Mem} {h h' : Nat} {i z : Int} (e : h' ≠ h) : mset M h i z h' = M h' := if_neg e
theorem mset_eq {M : Mem} {h : Nat} {i z : Int} : mset M h i z h = fun j => if j = i then z else M h j := if_pos rfl
def fda (ci k : Nat) : Nat × Int × Int := (fds ci).getD k (0, 0, 0)
def fVal (ad : Nat → Nat) (M : Mem) (h k : Nat) (d : Nat × Int × Int) : Value :=
  if d.1 = 0 then .ref (ad d.2.1.toNat) else if d.1 = 2 then .long (Int64.ofInt (M h k)) else .int (Int32.ofInt (M h k))
def fLs (ad : Nat → Nat) (M : Mem) (h ci : Nat) : List Value := (List.range (nfd ci)).map fun k => fVal ad M h k (fda ci k)
def ent (aC : Nat → ClassId) (ad : Nat → Nat) (M : Mem) (h : Nat) : va_E :=
  match shp h with
  | .inl ci => .inr (ci, fLs ad M h ci)
  | .inr (t, n, _, _) => .inl (aC t, n, if t = 2 then .inr (.inl fun j => Int64.ofInt (M h j)) else .inl fun j => Int32.ofInt (M h j))
def wld (aC : Nat → ClassId) (ad : Nat → Nat) (M : Mem) : va_W := (List.range nHd).map fun h => (ad h, ent aC ad M h)
abbrev tysA (aC : Nat → ClassId) : List (ClassId × FieldType) := [(aC 0, .int), (aC 1, .boolean), (aC 2, .long)]
def okAt (M : Mem) (h : Nat) : Prop := match shp h with
  | .inl ci => ∀ k : Nat, k < nfd ci → (fda ci k).1 ≠ 0 → (fda ci k).2.1 ≤ M h k ∧ M h k ≤ (fda ci k).2.2
  | .inr (_, _, lo, hi) => ∀ i : Int, lo ≤ M h i ∧ M h i ≤ hi
def Ok (M : Mem) : Prop := ∀ h, h < nHd → okAt M h
/-- the cells of the two systems, and all that were made since the law began (place 300 keeps where that was) -/
def Adr (ad : Nat → Nat) : Nat → Prop := fun q => (∃ h, h < nHd ∧ q = ad h) ∨ ad 300 ≤ q
def Apart (ad : Nat → Nat) : Prop := ∀ i j, i < nHd → j < nHd → ad i = ad j → i = j
theorem wld_at {aC : Nat → ClassId} {ad : Nat → Nat} {M : Mem} {h : Nat} (hh : h < nHd) : (wld aC ad M)[h]? = some (ad h, ent aC ad M h) := by
  simp [wld, List.getElem?_map, List.getElem?_range hh]
theorem wld_D {aC : Nat → ClassId} {ad : Nat → Nat} {M : Mem} (hA : Apart ad) : va_D (Adr ad) (wld aC ad M) := by
  have key : ∀ (k : Nat) (q : Nat × va_E), (wld aC ad M)[k]? = some q → k < nHd ∧ q.1 = ad k := by
    intro k q hk
    have hl : k < nHd := by
      have := (List.getElem?_eq_some_iff.mp hk).1
      simpa [wld] using this
    rw [wld_at hl] at hk
    cases hk
    exact ⟨hl, rfl⟩
  refine ⟨fun i j p q hi hj e => ?_, fun k q hk => ?_⟩
  · obtain ⟨a1, a2⟩ := key i p hi
    obtain ⟨b1, b2⟩ := key j q hj
    exact hA i j a1 b1 (by rw [← a2, ← b2]; exact e)
  · obtain ⟨a1, a2⟩ := key k q hk
    exact Or.inl ⟨k, a1, a2⟩
theorem ent_obj {aC : Nat → ClassId} {ad : Nat → Nat} {M : Mem} {h ci : Nat} (e : shp h = .inl ci) : ent aC ad M h = .inr (ci, fLs ad M h ci) := by
  unfold ent; rw [e]
theorem ent_arr {aC : Nat → ClassId} {ad : Nat → Nat} {M : Mem} {h n : Nat} {lo hi : Int} (t : Nat) (ht : t ≠ 2) (e : shp h = .inr (t, n, lo, hi)) : ent aC ad M h = .inl (aC t, n, .inl fun j => Int32.ofInt (M h j)) := by
  unfold ent; rw [e]; simp [ht]
theorem ent_arrL {aC : Nat → ClassId} {ad : Nat → Nat} {M : Mem} {h n : Nat} {lo hi : Int} (e : shp h = .inr (2, n, lo, hi)) : ent aC ad M h = .inl (aC 2, n, .inr (.inl fun j => Int64.ofInt (M h j))) := by
  unfold ent; rw [e]; simp
theorem fLs_at {ad : Nat → Nat} {M : Mem} {h ci k : Nat} (hk : k < nfd ci) : (fLs ad M h ci)[k]? = some (fVal ad M h k (fda ci k)) := by
  simp [fLs, List.getElem?_map, List.getElem?_range hk]
theorem ent_ne {aC : Nat → ClassId} {ad : Nat → Nat} {M : Mem} {h h' : Nat} {i z : Int} (e : h' ≠ h) : ent aC ad (mset M h i z) h' = ent aC ad M h' := by
  unfold ent fLs fVal
  rw [mset_ne e]
theorem wld_set {aC : Nat → ClassId} {ad : Nat → Nat} {M : Mem} {h : Nat} {i z : Int} (hh : h < nHd) {x : va_E} (hx : x = ent aC ad (mset M h i z) h) : (wld aC ad M).set h (ad h, x) = wld aC ad (mset M h i z) := by
  subst hx
  apply List.ext_getElem?
  intro k
  by_cases hk : k < nHd
  · rw [wld_at hk]
    by_cases e : h = k
    · subst e
      rw [List.getElem?_set_self (by simpa [wld] using hh)]
    · rw [List.getElem?_set_ne e, wld_at hk, ent_ne (fun q => e q.symm)]
  · rw [List.getElem?_eq_none (by simpa [wld] using Nat.le_of_not_lt hk), List.getElem?_eq_none (by simpa [wld] using Nat.le_of_not_lt hk)]
theorem fLs_set {ad : Nat → Nat} {M : Mem} {h ci k : Nat} {z : Int} (hk : k < nfd ci) (hn : (fda ci k).1 ≠ 0) {v : Value} (hv : v = fVal ad (mset M h k z) h k (fda ci k)) : (fLs ad M h ci).set k v = fLs ad (mset M h k z) h ci := by
  subst hv
  apply List.ext_getElem?
  intro j
  by_cases hj : j < nfd ci
  · rw [fLs_at hj]
    by_cases e : k = j
    · subst e
      rw [List.getElem?_set_self (by simpa [fLs] using hk)]
    · rw [List.getElem?_set_ne e, fLs_at hj]
      unfold fVal
      rw [mset_eq]
      have : ¬ (j : Int) = (k : Int) := fun q => e (Int.ofNat_inj.mp q.symm)
      simp [this]
  · rw [List.getElem?_eq_none (by simpa [fLs] using Nat.le_of_not_lt hj), List.getElem?_eq_none (by simpa [fLs] using Nat.le_of_not_lt hj)]
theorem Ok.arr {M : Mem} (hO : Ok M) {h t n : Nat} {lo hi : Int} (hh : h < nHd) (e : shp h = .inr (t, n, lo, hi)) (i : Int) : lo ≤ M h i ∧ M h i ≤ hi := by
  have := hO h hh
  unfold okAt at this
  rw [e] at this
  exact this i
theorem Ok.fld {M : Mem} (hO : Ok M) {h ci k : Nat} {t : Nat} {lo hi : Int} (hh : h < nHd) (e : shp h = .inl ci) (hk : k < nfd ci) (hf : fda ci k = (t, lo, hi)) (ht : t ≠ 0) : lo ≤ M h k ∧ M h k ≤ hi := by
  have := hO h hh
  unfold okAt at this
  rw [e] at this
  have := this k hk (by rw [hf]; exact ht)
  rw [hf] at this
  exact this
theorem Ok.setA {M : Mem} (hO : Ok M) {h t n : Nat} {lo hi i z : Int} (e : shp h = .inr (t, n, lo, hi)) (h1 : lo ≤ z) (h2 : z ≤ hi) : Ok (mset M h i z) := by
  intro h' hh'
  by_cases q : h' = h
  · subst q
    have := hO h' hh'
    unfold okAt at this ⊢
    rw [e] at this ⊢
    intro j
    rw [mset_eq]
    by_cases hj : j = i
    · simp [hj, h1, h2]
    · simp only [hj, if_false]; exact this j
  · have := hO h' hh'
    unfold okAt at this ⊢
    rw [mset_ne q]
    exact this
theorem Ok.setF {M : Mem} (hO : Ok M) {h ci k : Nat} {t : Nat} {lo hi z : Int} (e : shp h = .inl ci) (hf : fda ci k = (t, lo, hi)) (h1 : lo ≤ z) (h2 : z ≤ hi) : Ok (mset M h k z) := by
  intro h' hh'
  by_cases q : h' = h
  · subst q
    have := hO h' hh'
    unfold okAt at this ⊢
    rw [e] at this ⊢
    intro j hj hn
    rw [mset_eq]
    by_cases hjk : j = k
    · subst hjk
      rw [hf]
      simp [h1, h2]
    · have hne : ¬ (j : Int) = (k : Int) := fun q => hjk (Int.ofNat_inj.mp q)
      simp only [hne, if_false]
      exact this j hj hn
  · have := hO h' hh'
    unfold okAt at this ⊢
    rw [mset_ne q]
    exact this
/-! ===== numbers: an int or long of the machine by an integer that it is the rest of ===== -/
theorem i_toInt {z : Int} (h1 : -2147483648 ≤ z) (h2 : z ≤ 2147483647) : (Int32.ofInt z).toInt = z := by
  apply Int32.toInt_ofInt_of_le <;> omega
theorem j_toInt {z : Int} (h1 : -9223372036854775808 ≤ z) (h2 : z ≤ 9223372036854775807) : (Int64.ofInt z).toInt = z := by
  apply Int64.toInt_ofInt_of_le <;> omega
theorem i_clamp {z : Int} (h1 : 0 ≤ z) (h2 : z ≤ 2147483647) : (Int32.ofInt z).toNatClampNeg = z.toNat := by
  show (Int32.ofInt z).toInt.toNat = z.toNat
  rw [i_toInt (by omega) h2]
theorem i_in {z : Int} {n : Nat} (h1 : 0 ≤ z) (h2 : z < n) (hn : n ≤ 2147483647) : vp_in (Int32.ofInt z) n := by
  rw [vp_in_iff, i_toInt (by omega) (by omega)]
  exact ⟨h1, h2⟩
theorem i_lt {a b : Int} (a1 : -2147483648 ≤ a) (a2 : a ≤ 2147483647) (b1 : -2147483648 ≤ b) (b2 : b ≤ 2147483647) : Int32.ofInt a < Int32.ofInt b ↔ a < b := by
  rw [Int32.lt_iff_toInt_lt, i_toInt a1 a2, i_toInt b1 b2]
theorem i_le {a b : Int} (a1 : -2147483648 ≤ a) (a2 : a ≤ 2147483647) (b1 : -2147483648 ≤ b) (b2 : b ≤ 2147483647) : Int32.ofInt a ≤ Int32.ofInt b ↔ a ≤ b := by
  rw [Int32.le_iff_toInt_le, i_toInt a1 a2, i_toInt b1 b2]
theorem i_eq {a b : Int} (a1 : -2147483648 ≤ a) (a2 : a ≤ 2147483647) (b1 : -2147483648 ≤ b) (b2 : b ≤ 2147483647) : Int32.ofInt a = Int32.ofInt b ↔ a = b := by
  rw [← Int32.toInt_inj, i_toInt a1 a2, i_toInt b1 b2]
theorem j_lt {a b : Int} (a1 : -9223372036854775808 ≤ a) (a2 : a ≤ 9223372036854775807) (b1 : -9223372036854775808 ≤ b) (b2 : b ≤ 9223372036854775807) : Int64.ofInt a < Int64.ofInt b ↔ a < b := by
  rw [Int64.lt_iff_toInt_lt, j_toInt a1 a2, j_toInt b1 b2]
theorem j_eq {a b : Int} (a1 : -9223372036854775808 ≤ a) (a2 : a ≤ 9223372036854775807) (b1 : -9223372036854775808 ≤ b) (b2 : b ≤ 9223372036854775807) : Int64.ofInt a = Int64.ofInt b ↔ a = b := by
  rw [← Int64.toInt_inj, j_toInt a1 a2, j_toInt b1 b2]
theorem i_div {a b : Int} (a1 : 0 ≤ a) (a2 : a ≤ 2147483647) (b1 : 0 < b) (b2 : b ≤ 2147483647) : Int32.ofInt a / Int32.ofInt b = Int32.ofInt (a / b) := by
  rw [← Int.tdiv_eq_ediv_of_nonneg a1, Int32.ofInt_tdiv] <;> (simp only [Int32.minValue, Int32.maxValue]; first | omega | (simp; omega))
theorem i_rem {a b : Int} (a1 : 0 ≤ a) (a2 : a ≤ 2147483647) (b1 : 0 < b) (b2 : b ≤ 2147483647) : Int32.ofInt a - Int32.ofInt a / Int32.ofInt b * Int32.ofInt b = Int32.ofInt (a % b) := by
  rw [i_div a1 a2 b1 b2, ← Int32.ofInt_mul, ← Int32.ofInt_sub, Int.emod_def, Int.mul_comm]
theorem j_div {a b : Int} (a1 : 0 ≤ a) (a2 : a ≤ 9223372036854775807) (b1 : 0 < b) (b2 : b ≤ 9223372036854775807) : Int64.ofInt a / Int64.ofInt b = Int64.ofInt (a / b) := by
  rw [← Int.tdiv_eq_ediv_of_nonneg a1, Int64.ofInt_tdiv] <;> (simp only [Int64.minValue, Int64.maxValue]; first | omega | (simp; omega))
theorem j_rem {a b : Int} (a1 : 0 ≤ a) (a2 : a ≤ 9223372036854775807) (b1 : 0 < b) (b2 : b ≤ 9223372036854775807) : Int64.ofInt a - Int64.ofInt a / Int64.ofInt b * Int64.ofInt b = Int64.ofInt (a % b) := by
  rw [j_div a1 a2 b1 b2, ← Int64.ofInt_mul, ← Int64.ofInt_sub, Int.emod_def, Int.mul_comm]
theorem i_i2l {z : Int} (h1 : -2147483648 ≤ z) (h2 : z ≤ 2147483647) : (Int32.ofInt z).toInt64 = Int64.ofInt z := by
  rw [← Int64.toInt_inj, Int32.toInt_toInt64, i_toInt h1 h2, j_toInt (by omega) (by omega)]
theorem i_l2i (z : Int) : (Int64.ofInt z).toInt32 = Int32.ofInt z := by
  simp
/-! words of bits, by the machine's own rules -/
def bAnd (a b : Int) : Int := (Int32.ofInt a &&& Int32.ofInt b).toInt
def bOr (a b : Int) : Int := (Int32.ofInt a ||| Int32.ofInt b).toInt
def bXor (a b : Int) : Int := (Int32.ofInt a ^^^ Int32.ofInt b).toInt
def bShl (a b : Int) : Int := (Int32.ofInt a <<< (Int32.ofInt b &&& 31)).toInt
def bShr (a b : Int) : Int := (Int32.ofInt a >>> (Int32.ofInt b &&& 31)).toInt
def bUshr (a b : Int) : Int := ((Int32.ofInt a).toUInt32 >>> ((Int32.ofInt b).toUInt32 &&& Int32.toUInt32 31)).toInt32.toInt
def lAnd (a b : Int) : Int := (Int64.ofInt a &&& Int64.ofInt b).toInt
def lOr (a b : Int) : Int := (Int64.ofInt a ||| Int64.ofInt b).toInt
def lShl (a b : Int) : Int := (Int64.ofInt a <<< ((Int32.ofInt b).toInt64 &&& 63)).toInt
def lShr (a b : Int) : Int := (Int64.ofInt a >>> ((Int32.ofInt b).toInt64 &&& 63)).toInt
theorem i_back (x : Int32) : Int32.ofInt x.toInt = x := by simp
theorem j_back (x : Int64) : Int64.ofInt x.toInt = x := by simp
