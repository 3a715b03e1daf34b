/-! ===== bits of a set of sixteen, counted ===== -/
def pop16 (x : Nat) : Nat := x % 2 + x / 2 % 2 + x / 4 % 2 + x / 8 % 2 + x / 16 % 2 + x / 32 % 2 + x / 64 % 2 + x / 128 % 2 + x / 256 % 2 + x / 512 % 2 + x / 1024 % 2 + x / 2048 % 2 + x / 4096 % 2 + x / 8192 % 2 + x / 16384 % 2 + x / 32768 % 2
def sN1 (x : Nat) : Nat := x - (x / 2 &&& 1431655765)
def sN2 (x : Nat) : Nat := (x &&& 858993459) + (x / 4 &&& 858993459)
def sN3 (x : Nat) : Nat := (x + x / 16) &&& 252645135
def sN4 (x : Nat) : Nat := x + x / 256
def sN5 (x : Nat) : Nat := x + x / 65536
def chk (x : Nat) : Bool := Nat.ble (x / 2 &&& 1431655765) x && (Nat.beq (sN5 (sN4 (sN3 (sN2 (sN1 x)))) &&& 63) (pop16 x) && (Nat.ble (sN1 x) 65535 && (Nat.ble (sN2 (sN1 x)) 65535 && (Nat.ble (sN3 (sN2 (sN1 x))) 65535 && Nat.ble (sN4 (sN3 (sN2 (sN1 x)))) 131071))))
def chkN : Nat → Nat → Bool
  | 0, _ => true
  | n + 1, b => chk (b + n) && chkN n b
def chkM : Nat → Bool
  | 0 => true
  | n + 1 => chkN 256 (n * 256) && chkM n
theorem chk_all : chkM 256 = true := by decide +kernel
theorem chkN_at : ∀ (n b : Nat), chkN n b = true → ∀ x, x < n → chk (b + x) = true
  | 0, _, _, _, h => absurd h (by omega)
  | n + 1, b, h, x, hx => by
    unfold chkN at h
    rw [Bool.and_eq_true] at h
    by_cases e : x = n
    · rw [e]; exact h.1
    · exact chkN_at n b h.2 x (by omega)
theorem chkM_at : ∀ n, chkM n = true → ∀ y, y < n → chkN 256 (y * 256) = true
  | 0, _, _, h => absurd h (by omega)
  | n + 1, h, y, hy => by
    unfold chkM at h
    rw [Bool.and_eq_true] at h
    by_cases e : y = n
    · rw [e]; exact h.1
    · exact chkM_at n h.2 y (by omega)
theorem chk_at (x : Nat) (hx : x < 65536) : chk x = true := by
  have h1 := chkM_at 256 chk_all (x / 256) (by omega)
  have h2 := chkN_at 256 _ h1 (x % 256) (by omega)
  rw [show x / 256 * 256 + x % 256 = x by omega] at h2
  exact h2
