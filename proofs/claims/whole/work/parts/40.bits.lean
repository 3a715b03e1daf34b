/-! ===== bits ===== -/
theorem ofI_nI (n : Nat) : Int32.ofInt (n : Int) = nI n := by
  unfold nI
  first | rfl | simp
theorem toInt_nat {z : Int32} {n : Nat} (h : z.toBitVec.toNat = n) (hn : n < 2147483648) : z.toInt = n := by
  have : z.toBitVec.toInt = (z.toBitVec.toNat : Int) := BitVec.toInt_eq_toNat_of_lt (by rw [h]; omega)
  rw [h] at this
  exact this
theorem bAnd_nat {x y : Nat} (hx : x < 2147483648) (hy : y < 2147483648) : bAnd x y = (x &&& y : Nat) := by
  unfold bAnd
  rw [ofI_nI, ofI_nI]
  refine toInt_nat ?_ (Nat.lt_of_le_of_lt Nat.and_le_left hx)
  rw [Int32.toBitVec_and, BitVec.toNat_and, pk_tn (by omega), pk_tn (by omega)]
theorem bOr_nat {x y : Nat} (hx : x < 2147483648) (hy : y < 2147483648) : bOr x y = (x ||| y : Nat) := by
  unfold bOr
  rw [ofI_nI, ofI_nI]
  refine toInt_nat ?_ (Nat.or_lt_two_pow (n := 31) hx hy)
  rw [Int32.toBitVec_or, BitVec.toNat_or, pk_tn (by omega), pk_tn (by omega)]
theorem sl_amt : ∀ n, n < 32 → ((nI n &&& 31).toBitVec.smod 32).toNat = n := by decide +kernel
theorem bShr_nat {x k : Nat} (hx : x < 2147483648) (hk : k < 32) : bShr x k = (x / 2 ^ k : Nat) := by
  unfold bShr
  rw [ofI_nI, ofI_nI, pk_shrN hx _ k (sl_amt k hk)]
  exact nI_toInt (Nat.lt_of_le_of_lt (Nat.div_le_self _ _) hx)
theorem bShl_nat {x k : Nat} (hk : k < 32) (hx : x * 2 ^ k < 2147483648) : bShl x k = (x * 2 ^ k : Nat) := by
  unfold bShl
  rw [ofI_nI, ofI_nI, pk_shlN _ k (sl_amt k hk) (by omega)]
  exact nI_toInt hx
theorem bit_nat (n j : Nat) : (n : Int) / 2 ^ j % 2 = if n.testBit j = true then 1 else 0 := by
  have h : (n : Int) / 2 ^ j % 2 = ((n / 2 ^ j % 2 : Nat) : Int) := by
    push_cast
    rfl
  rw [h]
  have h2 : n.testBit j = decide (n / 2 ^ j % 2 = 1) := Nat.testBit_eq_decide_div_mod_eq
  rw [h2]
  have := Nat.mod_two_eq_zero_or_one (n / 2 ^ j)
  rcases this with e | e <;> simp [e]
theorem bit_and1 {x k : Nat} (hx : x < 2147483648) (hk : k < 32) : bAnd (bShr x k) 1 = (x : Int) / 2 ^ k % 2 := by
  rw [bShr_nat hx hk]
  have h1 : x / 2 ^ k < 2147483648 := Nat.lt_of_le_of_lt (Nat.div_le_self _ _) hx
  have := bAnd_nat (x := x / 2 ^ k) (y := 1) h1 (by decide)
  have e1 : ((1 : Nat) : Int) = 1 := rfl
  rw [e1] at this
  rw [this, Nat.and_one_is_mod]
  push_cast
  rfl
theorem bOr_set {x k : Nat} (hx : x < 65536) (hk : k < 16) : ∃ y : Nat, bOr x (bShl 1 k) = y ∧ y < 65536 ∧ ∀ j, y.testBit j = (x.testBit j || decide (j = k)) := by
  have hp : 2 ^ k < 65536 := Nat.pow_lt_pow_right (by decide) (show k < 16 from hk)
  have e : bShl 1 k = ((2 ^ k : Nat) : Int) := by
    have := bShl_nat (x := 1) (k := k) (by omega) (by omega)
    rw [Nat.one_mul] at this
    exact this
  refine ⟨x ||| 2 ^ k, ?_, Nat.or_lt_two_pow (n := 16) hx hp, fun j => ?_⟩
  · rw [e]; exact bOr_nat (by omega) (by omega)
  · rw [Nat.testBit_or, Nat.testBit_two_pow]
    congr 1
    by_cases h : k = j
    · simp [h]
    · simp [h, Ne.symm h]
theorem bClr {x k : Nat} (hx : x < 65536) (hk : k < 16) : ∃ y : Nat, bAnd x (bXor (bShl 1 k) (-1)) = y ∧ y < 65536 ∧ ∀ j, y.testBit j = (x.testBit j && !decide (j = k)) := by
  have hp : 2 ^ k < 65536 := Nat.pow_lt_pow_right (by decide) (show k < 16 from hk)
  have e : bShl 1 k = ((2 ^ k : Nat) : Int) := by
    have := bShl_nat (x := 1) (k := k) (by omega) (by omega)
    rw [Nat.one_mul] at this
    exact this
  refine ⟨x &&& (2 ^ k ^^^ 4294967295), ?_, Nat.lt_of_le_of_lt Nat.and_le_left hx, fun j => ?_⟩
  · rw [e]
    unfold bAnd bXor
    rw [i_back, ofI_nI, ofI_nI]
    refine toInt_nat ?_ (Nat.lt_of_le_of_lt Nat.and_le_left (by omega))
    rw [Int32.toBitVec_and, BitVec.toNat_and, pk_tn (by omega), Int32.toBitVec_xor, BitVec.toNat_xor, pk_tn (by omega)]
    rfl
  · rw [Nat.testBit_and, Nat.testBit_xor, Nat.testBit_two_pow, show (4294967295 : Nat) = 2 ^ 32 - 1 from rfl, Nat.testBit_two_pow_sub_one]
    by_cases hj : j < 16
    · by_cases h : k = j
      · simp [h]; omega
      · have h2 : ¬ j = k := fun z => h z.symm
        simp [h, h2]; omega
    · have hp2 : 2 ^ 16 ≤ 2 ^ j := Nat.pow_le_pow_right (by decide) (by omega)
      have : x.testBit j = false := Nat.testBit_lt_two_pow (Nat.lt_of_lt_of_le hx hp2)
      simp [this]
