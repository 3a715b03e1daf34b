/-! ===== SPEC: what both systems compute, over B ===== -/
/-- the depth of the upper end of layer k of column c -/
def dep (B : Mem) (c : Int) : Nat → Int
  | 0 => 0
  | k + 1 => dep B c k + B 4 (c * 6 + k)
abbrev wet (B : Mem) (c : Int) (k : Nat) : Prop := B 1 c ≤ dep B c k
def uw (B : Mem) (c : Int) (k : Nat) : Int := if wet B c k then B 10 21 else B 10 20
/-- the weight of all above layer k -/
def abv (B : Mem) (c : Int) : Nat → Int
  | 0 => 0
  | k + 1 => abv B c k + B 4 (c * 6 + k) * uw B c k
def hld (B : Mem) (c : Int) (k : Nat) : Int := max 1 (abv B c k + B 4 (c * 6 + k) * uw B c k / 2)
/-- a rule of the kind of layer k -/
def rlk (B : Mem) (c : Int) (k : Nat) (name : Int) : Int := B 10 (B 3 (c * 6 + k) * 5 + name)
/-- layers of a column, as a natural number -/
def nly (B : Mem) (c : Int) : Nat := (B 2 c).toNat
/-- a layer's state: push, and the step in which it let go, or -1 -/
def gain (p : Int × Int) (s more : Int) : Int × Int := if p.2 = -1 then (if p.1 + more < 1000 then (p.1 + more, -1) else (1000, s)) else p
section RUN
variable (B : Mem) (c q : Int) (ch : Nat → Int) (mo le : Int)
/-- the strength that arrives at the layer d places above the lowest, from strength a at the lowest, the layers' states being P -/
def arD (P : Nat → Int × Int) (a : Int) : Nat → Int
  | 0 => a
  | d + 1 => arD P a d * (if (P (nly B c - 1 - d)).2 = -1 then rlk B c (nly B c - 1 - d) 2 else B 10 22) / 100
def arr (P : Nat → Int × Int) (s k : Nat) : Int := arD B c P (B 9 (q * 30 + s)) (nly B c - 1 - k)
/-- how much a beat adds to a layer's push -/
def grw (P : Nat → Int × Int) (s k : Nat) : Int := arr B c q P s k * (rlk B c k 0 * max 0 (B 6 ((c * 6 + k) * 3 + ch k) - le)) / (10 * hld B c k)
/-- behind a beat, ahead of draining -/
def bt1 (P : Nat → Int × Int) (s k : Nat) : Int × Int := if (s : Int) < B 8 q then (if wet B c k then gain (P k) s (grw B c q ch le P s k) else P k) else P k
def los (p : Int) (k : Nat) : Int := if wet B c k then p * min 1000 (rlk B c k 1 + mo) / 1000 else 0
/-- behind a step -/
def stp (P : Nat → Int × Int) (s k : Nat) : Int × Int :=
  if wet B c k then gain ((bt1 B c q ch le P s k).1 - los B c mo (bt1 B c q ch le P s k).1 k, (bt1 B c q ch le P s k).2) s (if k + 1 < nly B c then los B c mo (bt1 B c q ch le P s (k + 1)).1 (k + 1) / 2 else 0)
  else (0, -1)
/-- the layers' states behind s steps -/
def FF : Nat → Nat → Int × Int
  | 0 => fun _ => (0, -1)
  | s + 1 => stp B c q ch mo le (FF s) s
def nst : Nat := (B 8 q + B 10 24).toNat
/-- a run's end -/
def fin (k : Nat) : Int × Int := FF B c q ch mo le (nst B q) k
def anyG : Prop := ∃ k : Nat, k < nly B c ∧ (fin B c q ch mo le k).2 ≠ -1
end RUN
/-! choices: the number of all, the digits of a place (the topmost layer's first) -/
def many (B : Mem) (c : Int) : Nat → Int
  | 0 => 1
  | k + 1 => many B c k * B 5 (c * 6 + k)
/-- what is left of a place behind the d lowest layers -/
def lft (B : Mem) (c : Int) (n : Nat) (p : Int) : Nat → Int
  | 0 => p
  | d + 1 => lft B c n p d / B 5 (c * 6 + (n - 1 - d : Nat))
def dig (B : Mem) (c : Int) (p : Int) (k : Nat) : Int := lft B c (nly B c) p (nly B c - 1 - k) % B 5 (c * 6 + k)
def wgt (B : Mem) (c : Int) (ch : Nat → Int) : Nat → Int
  | 0 => 1
  | k + 1 => wgt B c ch k * B 7 ((c * 6 + k) * 3 + ch k)
/-- word i, of column c, bars the choice -/
def bar1 (B : Mem) (c : Int) (ch : Nat → Int) (i : Int) : Prop :=
  if B 13 i = 2 then ¬ (B 15 i ≤ B 6 ((c * 6 + B 14 i) * 3 + ch (B 14 i).toNat) ∧ B 6 ((c * 6 + B 14 i) * 3 + ch (B 14 i).toNat) ≤ B 16 i)
  else if B 13 i = 0 then anyG B c (B 14 i) ch 0 0 else ¬ anyG B c (B 14 i) ch 0 0
/-- a set out of what holds of 0 .. n-1 -/
noncomputable def setN (P : Nat → Prop) : Nat → Int
  | 0 => 0
  | n + 1 => setN P n + @ite Int (P n) (Classical.propDecidable _) (2 ^ n) 0
/-- the words of column c that bar a choice, struck or not -/
noncomputable def agst (B : Mem) (c : Int) (ch : Nat → Int) : Int := setN (fun i => B 12 i = c ∧ bar1 B c ch i) (B 11 0).toNat
/-- the slots that runs and words hang on -/
def cut (B : Mem) : Mem := fun j => if j < 20 then B j else fun _ => 0
/-- the state is as calls make it -/
def WF (B : Mem) : Prop :=
  (∀ c k : Int, 0 ≤ c → c < 6 → 0 ≤ k → k < B 2 c → 1 ≤ B 5 (c * 6 + k)) ∧
  (∀ k : Int, 0 ≤ k → k < 4 → B 10 (5 * k + 2) ≤ 100 ∧ B 10 (5 * k) ≤ 99 ∧ B 10 (5 * k + 3) ≤ 99 ∧ B 10 (5 * k + 4) ≤ 99) ∧ B 10 22 ≤ 100 ∧ B 10 24 ≤ 30 ∧ B 10 20 ≤ 99 ∧ B 10 21 ≤ 99 ∧ 1 ≤ B 10 23 ∧ B 10 23 ≤ 99 ∧
  (∀ i : Int, 0 ≤ i → i < B 11 0 → (B 13 i = 2 → B 14 i < B 2 (B 12 i)) ∧ (B 13 i ≠ 2 → B 14 i < B 20 0)) ∧
  (∀ i : Int, 0 ≤ i → i < B 27 0 → B 29 i < B 2 (B 28 i)) ∧
  (∀ c k : Int, 0 ≤ c → c < 6 → B 2 c ≤ k → k < 6 → B 5 (c * 6 + k) = 0) ∧
  (∀ i : Int, B 11 0 ≤ i → i < 16 → B 22 i = 0) ∧
  (∀ q : Int, B 20 0 ≤ q → q < 6 → B 8 q = 0) ∧
  (∀ a j : Int, 0 ≤ a → a < 36 → 0 ≤ j → j < B 5 a → 1 ≤ B 7 (a * 3 + j)) ∧
  (∀ h : Int, 0 ≤ h → h < B 23 0 → 1 ≤ B 25 h)
/-- the class's struck words, bit by bit -/
def StC (M B : Mem) : Prop := ∀ i : Nat, i < 16 → M 5 6 / 2 ^ i % 2 = B 22 i
/-- the class's look at a column's choices -/
def CC (M B : Mem) : Prop := ∀ c : Nat, c < 6 → M 5 9 / 2 ^ c % 2 = 1 →
  M 36 c = many (cut B) c (nly (cut B) c) ∧ ∀ p : Int, 0 ≤ p → p < many (cut B) c (nly (cut B) c) → M 37 (c * 729 + p) = agst (cut B) c (dig (cut B) c p)
/-- a choice is kept -/
def kept (B : Mem) (c p : Int) : Prop := ∀ i : Int, 0 ≤ i → i < B 11 0 → B 12 i = c → B 22 i = 0 → ¬ bar1 B c (dig B c p) i
/-- how many of 0 .. n-1 -/
noncomputable def cntN (P : Nat → Prop) : Nat → Int
  | 0 => 0
  | n + 1 => cntN P n + @ite Int (P n) (Classical.propDecidable _) 1 0
/-- the model's look at a column's choices -/
def CM (M B : Mem) : Prop := ∀ c : Int, 0 ≤ c → c < 6 → M 66 c = 1 →
  M 67 c = cntN (fun p => kept B c p) (many B c (nly B c)).toNat ∧ ∀ p : Int, 0 ≤ p → p < many B c (nly B c) → (M 82 (729 * c + p) = 1 ↔ kept B c p)
def Inv (M B : Mem) : Prop := CB M B ∧ MB M B ∧ RB B ∧ WF B ∧ StC M B ∧ CC M B ∧ CM M B
