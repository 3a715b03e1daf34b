/-- handles: objects by their class, arrays by kind (0 int, 1 boolean, 2 long), length, least and greatest element -/
def shp : Nat → Nat ⊕ (Nat × Nat × Int × Int)
  | 0 => .inl 11
  | 1 => .inl 8
  | 2 => .inl 0
  | 3 => .inl 4
  | 4 => .inl 3
  | 5 => .inl 9
  | 6 => .inl 1
  | 7 => .inl 7
  | 8 => .inl 10
  | 9 => .inl 6
  | 10 => .inl 5
  | 11 => .inl 2
  | 12 => .inl 12
  | 13 => .inr (0, 6, 0, 3)
  | 14 => .inr (0, 6, 0, 20000000)
  | 15 => .inr (0, 6, -1, 59)
  | 16 => .inr (0, 6, 0, 1000000)
  | 17 => .inr (0, 180, 0, 999)
  | 18 => .inr (0, 360, 0, 500)
  | 19 => .inr (0, 6, 0, 999)
  | 20 => .inr (0, 6, 0, 400)
  | 21 => .inr (0, 6, 0, 6)
  | 22 => .inr (0, 36, 0, 3)
  | 23 => .inr (0, 36, 0, 60)
  | 24 => .inr (0, 36, 0, 3)
  | 25 => .inr (0, 108, 0, 100)
  | 26 => .inr (0, 108, 0, 9)
  | 27 => .inr (0, 6, 0, 1000)
  | 28 => .inr (0, 6, 0, 30)
  | 29 => .inr (0, 180, 0, 999)
  | 30 => .inr (0, 25, 0, 999)
  | 31 => .inr (0, 16, 0, 5)
  | 32 => .inr (0, 16, 0, 2)
  | 33 => .inr (0, 16, 0, 5)
  | 34 => .inr (0, 16, -2147483648, 2147483647)
  | 35 => .inr (0, 16, -2147483648, 2147483647)
  | 36 => .inr (0, 6, 0, 729)
  | 37 => .inr (0, 4374, 0, 65535)
  | 38 => .inr (0, 8, 0, 5)
  | 39 => .inr (0, 8, 0, 60)
  | 40 => .inr (0, 8, 0, 9999)
  | 41 => .inr (0, 8, 0, 5)
  | 42 => .inr (0, 8, 0, 5)
  | 43 => .inr (0, 8, 0, 999)
  | 44 => .inr (0, 8, 0, 99)
  | 45 => .inr (0, 6, 0, 5)
  | 46 => .inr (0, 6, 0, 1)
  | 47 => .inr (0, 6, 0, 500)
  | 48 => .inr (0, 6, 0, 999)
  | 49 => .inr (0, 384, 0, 2)
  | 50 => .inr (0, 36, 0, 2000000000)
  | 51 => .inr (0, 25, 0, 999)
  | 52 => .inr (0, 200, 0, 255)
  | 53 => .inr (0, 6, 0, 999)
  | 54 => .inr (0, 6, 0, 400)
  | 55 => .inr (0, 6, 0, 6)
  | 56 => .inr (0, 36, 0, 3)
  | 57 => .inr (0, 36, 0, 60)
  | 58 => .inr (0, 36, 0, 3)
  | 59 => .inr (0, 108, 0, 100)
  | 60 => .inr (0, 108, 0, 9)
  | 61 => .inr (0, 6, 0, 1000)
  | 62 => .inr (0, 6, 0, 30)
  | 63 => .inr (0, 180, 0, 999)
  | 64 => .inr (0, 25, 0, 999)
  | 65 => .inr (0, 25, 0, 999)
  | 66 => .inr (1, 6, 0, 1)
  | 67 => .inr (0, 6, 0, 729)
  | 68 => .inr (0, 6, 0, 2)
  | 69 => .inr (0, 6, 0, 20000000)
  | 70 => .inr (0, 6, -1, 59)
  | 71 => .inr (0, 6, 0, 999)
  | 72 => .inr (0, 6, 0, 1000)
  | 73 => .inr (1, 6, 0, 1)
  | 74 => .inr (0, 6, 0, 1000000)
  | 75 => .inr (0, 16, 0, 5)
  | 76 => .inr (0, 16, 0, 2)
  | 77 => .inr (0, 16, 0, 5)
  | 78 => .inr (0, 16, -2147483648, 2147483647)
  | 79 => .inr (0, 16, -2147483648, 2147483647)
  | 80 => .inr (1, 16, 0, 1)
  | 81 => .inr (0, 6, -1, 1)
  | 82 => .inr (1, 4374, 0, 1)
  | 83 => .inr (0, 8, 0, 5)
  | 84 => .inr (0, 8, 0, 60)
  | 85 => .inr (0, 8, 0, 9999)
  | 86 => .inr (0, 8, 0, 5)
  | 87 => .inr (0, 8, 0, 5)
  | 88 => .inr (0, 8, 0, 999)
  | 89 => .inr (0, 8, 0, 99)
  | 90 => .inr (0, 6, 0, 5)
  | 91 => .inr (0, 6, 0, 1)
  | 92 => .inr (0, 6, 0, 500)
  | 93 => .inr (0, 6, 0, 999)
  | 94 => .inr (0, 6, 0, 729)
  | 95 => .inr (0, 6, 0, 6)
  | 96 => .inr (0, 384, 0, 2)
  | 97 => .inr (2, 8, -1125899906842624, 1125899906842624)
  | 98 => .inr (0, 200, 0, 255)
  | _ => .inr (0, 0, 0, 0)
/-- fields by class: (0, the handle that it holds), (1, least, greatest) of int, 2 of long, 3 of boolean -/
def fds : Nat → List (Nat × Int × Int)
  | 0 => [(0, 19, 0), (0, 20, 0), (0, 21, 0), (0, 22, 0), (0, 23, 0), (0, 24, 0), (0, 25, 0), (0, 26, 0)]
  | 1 => [(0, 38, 0), (0, 39, 0), (0, 40, 0), (1, 0, 8)]
  | 2 => [(0, 51, 0), (1, 0, 200), (1, 0, 4), (1, -1, 200), (0, 52, 0), (1, 0, 200), (1, 0, 201)]
  | 3 => [(0, 30, 0)]
  | 4 => [(0, 27, 0), (0, 28, 0), (0, 29, 0), (1, 0, 6)]
  | 5 => [(0, 50, 0), (2, -1125899906842624, 1125899906842624), (2, -1125899906842624, 1125899906842624), (1, -1, 5), (1, 0, 5), (1, 0, 5), (2, -1125899906842624, 1125899906842624), (2, -1125899906842624, 1125899906842624)]
  | 6 => [(1, 0, 729), (1, 0, 729), (2, -1125899906842624, 1125899906842624), (2, -1125899906842624, 1125899906842624), (1, -2147483648, 2147483647), (1, -2147483648, 2147483647), (1, -2147483648, 2147483647), (1, 0, 999)]
  | 7 => [(0, 41, 0), (0, 42, 0), (0, 43, 0), (0, 44, 0), (1, 0, 8)]
  | 8 => [(0, 2, 0), (0, 3, 0), (0, 4, 0), (0, 13, 0), (0, 14, 0), (0, 15, 0), (0, 16, 0), (0, 17, 0), (0, 18, 0), (1, 0, 5), (1, 0, 6), (1, 0, 6), (1, 0, 30), (1, 0, 60), (1, 0, 3000), (1, 0, 3000), (1, -1, 5)]
  | 9 => [(0, 31, 0), (0, 32, 0), (0, 33, 0), (0, 34, 0), (0, 35, 0), (1, 0, 16), (1, 0, 65535), (0, 36, 0), (0, 37, 0), (1, 0, 63)]
  | 10 => [(0, 45, 0), (0, 46, 0), (0, 47, 0), (0, 48, 0), (0, 49, 0), (1, 0, 6)]
  | 11 => [(0, 1, 0), (0, 2, 0), (0, 3, 0), (0, 4, 0), (0, 5, 0), (0, 6, 0), (0, 7, 0), (0, 8, 0), (0, 9, 0), (0, 10, 0), (0, 11, 0)]
  | 12 => [(0, 53, 0), (0, 54, 0), (0, 55, 0), (0, 56, 0), (0, 57, 0), (0, 58, 0), (0, 59, 0), (0, 60, 0), (1, 0, 6), (0, 61, 0), (0, 62, 0), (0, 63, 0), (0, 64, 0), (0, 65, 0), (0, 66, 0), (0, 67, 0), (0, 68, 0), (2, -1125899906842624, 1125899906842624), (0, 69, 0), (0, 70, 0), (0, 71, 0), (0, 72, 0), (1, 0, 3000), (1, 0, 3000), (0, 73, 0), (0, 74, 0), (1, 0, 16), (0, 75, 0), (0, 76, 0), (0, 77, 0), (0, 78, 0), (0, 79, 0), (0, 80, 0), (0, 81, 0), (0, 82, 0), (2, -1125899906842624, 1125899906842624), (2, -1125899906842624, 1125899906842624), (1, -2147483648, 2147483647), (1, -2147483648, 2147483647), (1, 0, 8), (0, 83, 0), (0, 84, 0), (0, 85, 0), (1, 0, 8), (0, 86, 0), (0, 87, 0), (0, 88, 0), (0, 89, 0), (2, -1125899906842624, 1125899906842624), (2, -1125899906842624, 1125899906842624), (1, 0, 6), (0, 90, 0), (0, 91, 0), (0, 92, 0), (0, 93, 0), (0, 94, 0), (0, 95, 0), (0, 96, 0), (0, 97, 0), (0, 98, 0), (1, 0, 200), (1, -1, 200), (1, 0, 200), (2, -1125899906842624, 1125899906842624), (1, 0, 200), (1, 0, 200000)]
  | _ => []
abbrev nHd : Nat := 99
def cnm : Nat → String
  | 0 => RX0
  | 1 => RX1
  | 2 => RX2
  | 3 => RX3
  | 4 => RX4
  | 5 => RX5
  | 6 => RX6
  | 7 => RX7
  | 8 => RX8
  | 9 => RX9
  | 10 => RX10
  | 11 => RX11
  | 12 => RX12
  | _ => ""
def ctb : Nat → u_T
  | 0 => TX0
  | 1 => TX1
  | 2 => TX2
  | 3 => TX3
  | 4 => TX4
  | 5 => TX5
  | 6 => TX6
  | 7 => TX7
  | 8 => TX8
  | 9 => TX9
  | 10 => TX10
  | 11 => TX11
  | 12 => TX12
  | _ => fun _ => ("", "", "", false)
def cty : Nat → (Nat → FieldType)
  | 0 => tyX0
  | 1 => tyX1
  | 2 => tyX2
  | 3 => tyX3
  | 4 => tyX4
  | 5 => tyX5
  | 6 => tyX6
  | 7 => tyX7
  | 8 => tyX8
  | 9 => tyX9
  | 10 => tyX10
  | 11 => tyX11
  | 12 => tyX12
  | _ => fun _ => .int
def nfd (ci : Nat) : Nat := (fds ci).length
theorem vw_at : ∀ ci, ci < 13 → vwCl[ci]? = some (cnm ci, ctb ci, nfd ci) := by
  intro ci h
  match ci, h with
  | 0, _ => rfl
  | 1, _ => rfl
  | 2, _ => rfl
  | 3, _ => rfl
  | 4, _ => rfl
  | 5, _ => rfl
  | 6, _ => rfl
  | 7, _ => rfl
  | 8, _ => rfl
  | 9, _ => rfl
  | 10, _ => rfl
  | 11, _ => rfl
  | 12, _ => rfl
  | k + 13, h => exact absurd h (by omega)
theorem cls_lay : ∀ ci, ci < 13 → ∀ w ∈ u_ws (cnm ci) (ctb ci) (nfd ci), w ∈ lw_gd := by
  intro ci h
  match ci, h with
  | 0, _ => exact kl0
  | 1, _ => exact kl1
  | 2, _ => exact kl2
  | 3, _ => exact kl3
  | 4, _ => exact kl4
  | 5, _ => exact kl5
  | 6, _ => exact kl6
  | 7, _ => exact kl7
  | 8, _ => exact kl8
  | 9, _ => exact kl9
  | 10, _ => exact kl10
  | 11, _ => exact kl11
  | 12, _ => exact kl12
  | k + 13, h => exact absurd h (by omega)
theorem cls_ty : ∀ ci, ci < 13 → ∀ k, k < nfd ci → parseFieldDescriptor (ctb ci k).2.2.1 = some (cty ci k) := by
  intro ci h
  match ci, h with
  | 0, _ => exact tyX0_ok
  | 1, _ => exact tyX1_ok
  | 2, _ => exact tyX2_ok
  | 3, _ => exact tyX3_ok
  | 4, _ => exact tyX4_ok
  | 5, _ => exact tyX5_ok
  | 6, _ => exact tyX6_ok
  | 7, _ => exact tyX7_ok
  | 8, _ => exact tyX8_ok
  | 9, _ => exact tyX9_ok
  | 10, _ => exact tyX10_ok
  | 11, _ => exact tyX11_ok
  | 12, _ => exact tyX12_ok
  | k + 13, h => exact absurd h (by omega)
theorem cls_nm : ∀ ci, ci < 13 → ∀ a, a < nfd ci → ∀ b, b < nfd ci → a ≠ b → (ctb ci a).2.1 ≠ (ctb ci b).2.1 := by
  intro ci h
  match ci, h with
  | 0, _ => exact nmX0
  | 1, _ => exact nmX1
  | 2, _ => exact nmX2
  | 3, _ => exact nmX3
  | 4, _ => exact nmX4
  | 5, _ => exact nmX5
  | 6, _ => exact nmX6
  | 7, _ => exact nmX7
  | 8, _ => exact nmX8
  | 9, _ => exact nmX9
  | 10, _ => exact nmX10
  | 11, _ => exact nmX11
  | 12, _ => exact nmX12
  | k + 13, h => exact absurd h (by omega)
/-- an int, long or boolean field: its type, and that it isn't final -/
def fty (t : Nat) : FieldType := if t = 2 then .long else if t = 3 then .boolean else .int
theorem cls_num : ∀ ci, ci < 13 → ∀ k, k < nfd ci → ((fds ci).getD k (0, 0, 0)).1 ≠ 0 → (ctb ci k).2.2.2 = false ∧ cty ci k = fty ((fds ci).getD k (0, 0, 0)).1 := by decide +kernel
theorem shp_cls : ∀ h ci, shp h = .inl ci → ci < 13 ∧ h < nHd := by
  intro h ci e
  by_cases hh : h < 13
  · match h, hh with
    | 0, _ => cases e; decide
    | 1, _ => cases e; decide
    | 2, _ => cases e; decide
    | 3, _ => cases e; decide
    | 4, _ => cases e; decide
    | 5, _ => cases e; decide
    | 6, _ => cases e; decide
    | 7, _ => cases e; decide
    | 8, _ => cases e; decide
    | 9, _ => cases e; decide
    | 10, _ => cases e; decide
    | 11, _ => cases e; decide
    | 12, _ => cases e; decide
    | k + 13, hh => exact absurd hh (by omega)
  · exfalso
    unfold shp at e
    split at e <;> first | omega | (cases e; done) | (cases e; omega)
def stN : Nat → String
  | 0 => "FIRST"
  | 1 => "LOWEST"
  | 2 => "HIGHEST"
  | _ => ""
def stT : Nat → List Int
  | 0 => [20, 50, 90, 10, 60, 18, 9, 40, 5, 0]
  | 1 => [0, 0, 0, 0, 0, 1, 1, 0, 1, 0]
  | 2 => [99, 999, 100, 99, 99, 99, 99, 100, 99, 30]
  | _ => []
abbrev nSta : Nat := 3
def strIx : Nat → Nat
  | 0 => 102
  | 1 => 104
  | 2 => 106
  | 3 => 108
  | 4 => 110
  | 5 => 112
  | 6 => 114
  | 7 => 116
  | 8 => 118
  | 9 => 120
  | 10 => 122
  | 11 => 124
  | _ => 0
def strTx : Nat → String
  | 0 => "grow"
  | 1 => "drain"
  | 2 => "pass"
  | 3 => "settle"
  | 4 => "hold"
  | 5 => "dry"
  | 6 => "wet"
  | 7 => "flow"
  | 8 => "mark"
  | 9 => "after"
  | 10 => "kind"
  | 11 => ""
  | _ => ""
abbrev nStr : Nat := 12
def strLen : List Nat := [4, 5, 4, 6, 4, 3, 3, 4, 4, 5, 4, 0]
def strByt : List (List Int32) := [[103, 114, 111, 119], [100, 114, 97, 105, 110], [112, 97, 115, 115], [115, 101, 116, 116, 108, 101], [104, 111, 108, 100], [100, 114, 121], [119, 101, 116], [102, 108, 111, 119], [109, 97, 114, 107], [97, 102, 116, 101, 114], [107, 105, 110, 100], []]
/-- the places of the mathematical state: slot, handle, field (none: an array) -/
def cTab : List (Nat × Nat × Option Int) := [(0, 19, none), (1, 20, none), (2, 21, none), (3, 22, none), (4, 23, none), (5, 24, none), (6, 25, none), (7, 26, none), (8, 28, none), (9, 29, none), (10, 30, none), (11, 5, some 5), (12, 31, none), (13, 32, none), (14, 33, none), (15, 34, none), (16, 35, none), (20, 3, some 3), (21, 27, none), (23, 6, some 3), (24, 38, none), (25, 39, none), (26, 40, none), (27, 7, some 4), (28, 41, none), (29, 42, none), (30, 43, none), (31, 44, none), (32, 8, some 5), (33, 45, none), (34, 46, none), (35, 47, none), (36, 48, none), (37, 52, none), (38, 11, some 1), (39, 11, some 3)]
def mTab : List (Nat × Nat × Option Int) := [(0, 53, none), (1, 54, none), (2, 55, none), (3, 56, none), (4, 57, none), (5, 58, none), (6, 59, none), (7, 60, none), (8, 62, none), (9, 63, none), (10, 64, none), (11, 12, some 26), (12, 75, none), (13, 76, none), (14, 77, none), (15, 78, none), (16, 79, none), (20, 12, some 8), (21, 61, none), (22, 80, none), (23, 12, some 39), (24, 83, none), (25, 84, none), (26, 85, none), (27, 12, some 43), (28, 86, none), (29, 87, none), (30, 88, none), (31, 89, none), (32, 12, some 50), (33, 90, none), (34, 91, none), (35, 92, none), (36, 93, none), (37, 98, none), (38, 12, some 60), (39, 12, some 61)]
/-- all places that are no scratch -/
def kTab : List (Nat × Option Int) := [(19, none), (20, none), (21, none), (22, none), (23, none), (24, none), (25, none), (26, none), (28, none), (29, none), (30, none), (5, some 5), (31, none), (32, none), (33, none), (34, none), (35, none), (3, some 3), (27, none), (6, some 3), (38, none), (39, none), (40, none), (7, some 4), (41, none), (42, none), (43, none), (44, none), (8, some 5), (45, none), (46, none), (47, none), (48, none), (52, none), (11, some 1), (11, some 3), (53, none), (54, none), (55, none), (56, none), (57, none), (58, none), (59, none), (60, none), (62, none), (63, none), (64, none), (12, some 26), (75, none), (76, none), (77, none), (78, none), (79, none), (12, some 8), (61, none), (80, none), (12, some 39), (83, none), (84, none), (85, none), (12, some 43), (86, none), (87, none), (88, none), (89, none), (12, some 50), (90, none), (91, none), (92, none), (93, none), (98, none), (12, some 60), (12, some 61), (36, none), (37, none), (5, some 9), (5, some 6), (66, none), (67, none), (82, none)]
