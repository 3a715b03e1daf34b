/-! ===== LAYER 2: the mathematical state B, a row for each slot ===== -/
def agr (T : List (Nat × Nat × Option Int)) (M B : Mem) : Prop := ∀ q ∈ T, match q.2.2 with
  | none => M q.2.1 = B q.1
  | some k => M q.2.1 k = B q.1 0
abbrev CB (M B : Mem) : Prop := agr cTab M B
abbrev MB (M B : Mem) : Prop := agr mTab M B
def sRng : Nat → Int × Int
  | 0 => (0, 999)
  | 1 => (0, 400)
  | 2 => (0, 6)
  | 3 => (0, 3)
  | 4 => (0, 60)
  | 5 => (0, 3)
  | 6 => (0, 100)
  | 7 => (0, 9)
  | 8 => (0, 30)
  | 9 => (0, 999)
  | 10 => (0, 999)
  | 11 => (0, 16)
  | 12 => (0, 5)
  | 13 => (0, 2)
  | 14 => (0, 5)
  | 15 => (-2147483648, 2147483647)
  | 16 => (-2147483648, 2147483647)
  | 17 => (0, 0)
  | 18 => (0, 0)
  | 19 => (0, 0)
  | 20 => (0, 6)
  | 21 => (0, 1000)
  | 22 => (0, 1)
  | 23 => (0, 8)
  | 24 => (0, 5)
  | 25 => (0, 60)
  | 26 => (0, 9999)
  | 27 => (0, 8)
  | 28 => (0, 5)
  | 29 => (0, 5)
  | 30 => (0, 999)
  | 31 => (0, 99)
  | 32 => (0, 6)
  | 33 => (0, 5)
  | 34 => (0, 1)
  | 35 => (0, 500)
  | 36 => (0, 999)
  | 37 => (0, 255)
  | 38 => (0, 200)
  | 39 => (-1, 200)
  | _ => (0, 0)
def RB (B : Mem) : Prop := ∀ j : Nat, j < 40 → ∀ i : Int, (sRng j).1 ≤ B j i ∧ B j i ≤ (sRng j).2
theorem c_top {M B : Mem} (h : CB M B) : M 19 = B 0 := h (0, 19, none) (List.mem_of_getElem? (i := 0) rfl)
theorem m_top {M B : Mem} (h : MB M B) : M 53 = B 0 := h (0, 53, none) (List.mem_of_getElem? (i := 0) rfl)
theorem b_top {B : Mem} (h : RB B) (i : Int) : 0 ≤ B 0 i ∧ B 0 i ≤ 999 := h 0 (by decide) i
theorem c_water {M B : Mem} (h : CB M B) : M 20 = B 1 := h (1, 20, none) (List.mem_of_getElem? (i := 1) rfl)
theorem m_water {M B : Mem} (h : MB M B) : M 54 = B 1 := h (1, 54, none) (List.mem_of_getElem? (i := 1) rfl)
theorem b_water {B : Mem} (h : RB B) (i : Int) : 0 ≤ B 1 i ∧ B 1 i ≤ 400 := h 1 (by decide) i
theorem c_layers {M B : Mem} (h : CB M B) : M 21 = B 2 := h (2, 21, none) (List.mem_of_getElem? (i := 2) rfl)
theorem m_layers {M B : Mem} (h : MB M B) : M 55 = B 2 := h (2, 55, none) (List.mem_of_getElem? (i := 2) rfl)
theorem b_layers {B : Mem} (h : RB B) (i : Int) : 0 ≤ B 2 i ∧ B 2 i ≤ 6 := h 2 (by decide) i
theorem c_kind {M B : Mem} (h : CB M B) : M 22 = B 3 := h (3, 22, none) (List.mem_of_getElem? (i := 3) rfl)
theorem m_kind {M B : Mem} (h : MB M B) : M 56 = B 3 := h (3, 56, none) (List.mem_of_getElem? (i := 3) rfl)
theorem b_kind {B : Mem} (h : RB B) (i : Int) : 0 ≤ B 3 i ∧ B 3 i ≤ 3 := h 3 (by decide) i
theorem c_thick {M B : Mem} (h : CB M B) : M 23 = B 4 := h (4, 23, none) (List.mem_of_getElem? (i := 4) rfl)
theorem m_thick {M B : Mem} (h : MB M B) : M 57 = B 4 := h (4, 57, none) (List.mem_of_getElem? (i := 4) rfl)
theorem b_thick {B : Mem} (h : RB B) (i : Int) : 0 ≤ B 4 i ∧ B 4 i ≤ 60 := h 4 (by decide) i
theorem c_values {M B : Mem} (h : CB M B) : M 24 = B 5 := h (5, 24, none) (List.mem_of_getElem? (i := 5) rfl)
theorem m_values {M B : Mem} (h : MB M B) : M 58 = B 5 := h (5, 58, none) (List.mem_of_getElem? (i := 5) rfl)
theorem b_values {B : Mem} (h : RB B) (i : Int) : 0 ≤ B 5 i ∧ B 5 i ≤ 3 := h 5 (by decide) i
theorem c_value {M B : Mem} (h : CB M B) : M 25 = B 6 := h (6, 25, none) (List.mem_of_getElem? (i := 6) rfl)
theorem m_value {M B : Mem} (h : MB M B) : M 59 = B 6 := h (6, 59, none) (List.mem_of_getElem? (i := 6) rfl)
theorem b_value {B : Mem} (h : RB B) (i : Int) : 0 ≤ B 6 i ∧ B 6 i ≤ 100 := h 6 (by decide) i
theorem c_weight {M B : Mem} (h : CB M B) : M 26 = B 7 := h (7, 26, none) (List.mem_of_getElem? (i := 7) rfl)
theorem m_weight {M B : Mem} (h : MB M B) : M 60 = B 7 := h (7, 60, none) (List.mem_of_getElem? (i := 7) rfl)
theorem b_weight {B : Mem} (h : RB B) (i : Int) : 0 ≤ B 7 i ∧ B 7 i ≤ 9 := h 7 (by decide) i
theorem c_beats {M B : Mem} (h : CB M B) : M 28 = B 8 := h (8, 28, none) (List.mem_of_getElem? (i := 8) rfl)
theorem m_beats {M B : Mem} (h : MB M B) : M 62 = B 8 := h (8, 62, none) (List.mem_of_getElem? (i := 8) rfl)
theorem b_beats {B : Mem} (h : RB B) (i : Int) : 0 ≤ B 8 i ∧ B 8 i ≤ 30 := h 8 (by decide) i
theorem c_strength {M B : Mem} (h : CB M B) : M 29 = B 9 := h (9, 29, none) (List.mem_of_getElem? (i := 9) rfl)
theorem m_strength {M B : Mem} (h : MB M B) : M 63 = B 9 := h (9, 63, none) (List.mem_of_getElem? (i := 9) rfl)
theorem b_strength {B : Mem} (h : RB B) (i : Int) : 0 ≤ B 9 i ∧ B 9 i ≤ 999 := h 9 (by decide) i
theorem c_rule {M B : Mem} (h : CB M B) : M 30 = B 10 := h (10, 30, none) (List.mem_of_getElem? (i := 10) rfl)
theorem m_rule {M B : Mem} (h : MB M B) : M 64 = B 10 := h (10, 64, none) (List.mem_of_getElem? (i := 10) rfl)
theorem b_rule {B : Mem} (h : RB B) (i : Int) : 0 ≤ B 10 i ∧ B 10 i ≤ 999 := h 10 (by decide) i
theorem c_words {M B : Mem} (h : CB M B) : M 5 5 = B 11 0 := h (11, 5, some 5) (List.mem_of_getElem? (i := 11) rfl)
theorem m_words {M B : Mem} (h : MB M B) : M 12 26 = B 11 0 := h (11, 12, some 26) (List.mem_of_getElem? (i := 11) rfl)
theorem b_words {B : Mem} (h : RB B) (i : Int) : 0 ≤ B 11 i ∧ B 11 i ≤ 16 := h 11 (by decide) i
theorem c_wcol {M B : Mem} (h : CB M B) : M 31 = B 12 := h (12, 31, none) (List.mem_of_getElem? (i := 12) rfl)
theorem m_wcol {M B : Mem} (h : MB M B) : M 75 = B 12 := h (12, 75, none) (List.mem_of_getElem? (i := 12) rfl)
theorem b_wcol {B : Mem} (h : RB B) (i : Int) : 0 ≤ B 12 i ∧ B 12 i ≤ 5 := h 12 (by decide) i
theorem c_wkind {M B : Mem} (h : CB M B) : M 32 = B 13 := h (13, 32, none) (List.mem_of_getElem? (i := 13) rfl)
theorem m_wkind {M B : Mem} (h : MB M B) : M 76 = B 13 := h (13, 76, none) (List.mem_of_getElem? (i := 13) rfl)
theorem b_wkind {B : Mem} (h : RB B) (i : Int) : 0 ≤ B 13 i ∧ B 13 i ≤ 2 := h 13 (by decide) i
theorem c_wsub {M B : Mem} (h : CB M B) : M 33 = B 14 := h (14, 33, none) (List.mem_of_getElem? (i := 14) rfl)
theorem m_wsub {M B : Mem} (h : MB M B) : M 77 = B 14 := h (14, 77, none) (List.mem_of_getElem? (i := 14) rfl)
theorem b_wsub {B : Mem} (h : RB B) (i : Int) : 0 ≤ B 14 i ∧ B 14 i ≤ 5 := h 14 (by decide) i
theorem c_wlow {M B : Mem} (h : CB M B) : M 34 = B 15 := h (15, 34, none) (List.mem_of_getElem? (i := 15) rfl)
theorem m_wlow {M B : Mem} (h : MB M B) : M 78 = B 15 := h (15, 78, none) (List.mem_of_getElem? (i := 15) rfl)
theorem b_wlow {B : Mem} (h : RB B) (i : Int) : -2147483648 ≤ B 15 i ∧ B 15 i ≤ 2147483647 := h 15 (by decide) i
theorem c_whigh {M B : Mem} (h : CB M B) : M 35 = B 16 := h (16, 35, none) (List.mem_of_getElem? (i := 16) rfl)
theorem m_whigh {M B : Mem} (h : MB M B) : M 79 = B 16 := h (16, 79, none) (List.mem_of_getElem? (i := 16) rfl)
theorem b_whigh {B : Mem} (h : RB B) (i : Int) : -2147483648 ≤ B 16 i ∧ B 16 i ≤ 2147483647 := h 16 (by decide) i
theorem c_shakes {M B : Mem} (h : CB M B) : M 3 3 = B 20 0 := h (20, 3, some 3) (List.mem_of_getElem? (i := 17) rfl)
theorem m_shakes {M B : Mem} (h : MB M B) : M 12 8 = B 20 0 := h (20, 12, some 8) (List.mem_of_getElem? (i := 17) rfl)
theorem b_shakes {B : Mem} (h : RB B) (i : Int) : 0 ≤ B 20 i ∧ B 20 i ≤ 6 := h 20 (by decide) i
theorem c_share {M B : Mem} (h : CB M B) : M 27 = B 21 := h (21, 27, none) (List.mem_of_getElem? (i := 18) rfl)
theorem m_share {M B : Mem} (h : MB M B) : M 61 = B 21 := h (21, 61, none) (List.mem_of_getElem? (i := 18) rfl)
theorem b_share {B : Mem} (h : RB B) (i : Int) : 0 ≤ B 21 i ∧ B 21 i ≤ 1000 := h 21 (by decide) i
theorem m_struck {M B : Mem} (h : MB M B) : M 80 = B 22 := h (22, 80, none) (List.mem_of_getElem? (i := 19) rfl)
theorem b_struck {B : Mem} (h : RB B) (i : Int) : 0 ≤ B 22 i ∧ B 22 i ≤ 1 := h 22 (by decide) i
theorem c_houses {M B : Mem} (h : CB M B) : M 6 3 = B 23 0 := h (23, 6, some 3) (List.mem_of_getElem? (i := 19) rfl)
theorem m_houses {M B : Mem} (h : MB M B) : M 12 39 = B 23 0 := h (23, 12, some 39) (List.mem_of_getElem? (i := 20) rfl)
theorem b_houses {B : Mem} (h : RB B) (i : Int) : 0 ≤ B 23 i ∧ B 23 i ≤ 8 := h 23 (by decide) i
theorem c_hcol {M B : Mem} (h : CB M B) : M 38 = B 24 := h (24, 38, none) (List.mem_of_getElem? (i := 20) rfl)
theorem m_hcol {M B : Mem} (h : MB M B) : M 83 = B 24 := h (24, 83, none) (List.mem_of_getElem? (i := 21) rfl)
theorem b_hcol {B : Mem} (h : RB B) (i : Int) : 0 ≤ B 24 i ∧ B 24 i ≤ 5 := h 24 (by decide) i
theorem c_hwid {M B : Mem} (h : CB M B) : M 39 = B 25 := h (25, 39, none) (List.mem_of_getElem? (i := 21) rfl)
theorem m_hwid {M B : Mem} (h : MB M B) : M 84 = B 25 := h (25, 84, none) (List.mem_of_getElem? (i := 22) rfl)
theorem b_hwid {B : Mem} (h : RB B) (i : Int) : 0 ≤ B 25 i ∧ B 25 i ≤ 60 := h 25 (by decide) i
theorem c_hwor {M B : Mem} (h : CB M B) : M 40 = B 26 := h (26, 40, none) (List.mem_of_getElem? (i := 22) rfl)
theorem m_hwor {M B : Mem} (h : MB M B) : M 85 = B 26 := h (26, 85, none) (List.mem_of_getElem? (i := 23) rfl)
theorem b_hwor {B : Mem} (h : RB B) (i : Int) : 0 ≤ B 26 i ∧ B 26 i ≤ 9999 := h 26 (by decide) i
theorem c_tanks {M B : Mem} (h : CB M B) : M 7 4 = B 27 0 := h (27, 7, some 4) (List.mem_of_getElem? (i := 23) rfl)
theorem m_tanks {M B : Mem} (h : MB M B) : M 12 43 = B 27 0 := h (27, 12, some 43) (List.mem_of_getElem? (i := 24) rfl)
theorem b_tanks {B : Mem} (h : RB B) (i : Int) : 0 ≤ B 27 i ∧ B 27 i ≤ 8 := h 27 (by decide) i
theorem c_tcol {M B : Mem} (h : CB M B) : M 41 = B 28 := h (28, 41, none) (List.mem_of_getElem? (i := 24) rfl)
theorem m_tcol {M B : Mem} (h : MB M B) : M 86 = B 28 := h (28, 86, none) (List.mem_of_getElem? (i := 25) rfl)
theorem b_tcol {B : Mem} (h : RB B) (i : Int) : 0 ≤ B 28 i ∧ B 28 i ≤ 5 := h 28 (by decide) i
theorem c_tlay {M B : Mem} (h : CB M B) : M 42 = B 29 := h (29, 42, none) (List.mem_of_getElem? (i := 25) rfl)
theorem m_tlay {M B : Mem} (h : MB M B) : M 87 = B 29 := h (29, 87, none) (List.mem_of_getElem? (i := 26) rfl)
theorem b_tlay {B : Mem} (h : RB B) (i : Int) : 0 ≤ B 29 i ∧ B 29 i ≤ 5 := h 29 (by decide) i
theorem c_twei {M B : Mem} (h : CB M B) : M 43 = B 30 := h (30, 43, none) (List.mem_of_getElem? (i := 26) rfl)
theorem m_twei {M B : Mem} (h : MB M B) : M 88 = B 30 := h (30, 88, none) (List.mem_of_getElem? (i := 27) rfl)
theorem b_twei {B : Mem} (h : RB B) (i : Int) : 0 ≤ B 30 i ∧ B 30 i ≤ 999 := h 30 (by decide) i
theorem c_tsiz {M B : Mem} (h : CB M B) : M 44 = B 31 := h (31, 44, none) (List.mem_of_getElem? (i := 27) rfl)
theorem m_tsiz {M B : Mem} (h : MB M B) : M 89 = B 31 := h (31, 89, none) (List.mem_of_getElem? (i := 28) rfl)
theorem b_tsiz {B : Mem} (h : RB B) (i : Int) : 0 ≤ B 31 i ∧ B 31 i ≤ 99 := h 31 (by decide) i
theorem c_works {M B : Mem} (h : CB M B) : M 8 5 = B 32 0 := h (32, 8, some 5) (List.mem_of_getElem? (i := 28) rfl)
theorem m_works {M B : Mem} (h : MB M B) : M 12 50 = B 32 0 := h (32, 12, some 50) (List.mem_of_getElem? (i := 29) rfl)
theorem b_works {B : Mem} (h : RB B) (i : Int) : 0 ≤ B 32 i ∧ B 32 i ≤ 6 := h 32 (by decide) i
theorem c_kcol {M B : Mem} (h : CB M B) : M 45 = B 33 := h (33, 45, none) (List.mem_of_getElem? (i := 29) rfl)
theorem m_kcol {M B : Mem} (h : MB M B) : M 90 = B 33 := h (33, 90, none) (List.mem_of_getElem? (i := 30) rfl)
theorem b_kcol {B : Mem} (h : RB B) (i : Int) : 0 ≤ B 33 i ∧ B 33 i ≤ 5 := h 33 (by decide) i
theorem c_kkin {M B : Mem} (h : CB M B) : M 46 = B 34 := h (34, 46, none) (List.mem_of_getElem? (i := 30) rfl)
theorem m_kkin {M B : Mem} (h : MB M B) : M 91 = B 34 := h (34, 91, none) (List.mem_of_getElem? (i := 31) rfl)
theorem b_kkin {B : Mem} (h : RB B) (i : Int) : 0 ≤ B 34 i ∧ B 34 i ≤ 1 := h 34 (by decide) i
theorem c_kamt {M B : Mem} (h : CB M B) : M 47 = B 35 := h (35, 47, none) (List.mem_of_getElem? (i := 31) rfl)
theorem m_kamt {M B : Mem} (h : MB M B) : M 92 = B 35 := h (35, 92, none) (List.mem_of_getElem? (i := 32) rfl)
theorem b_kamt {B : Mem} (h : RB B) (i : Int) : 0 ≤ B 35 i ∧ B 35 i ≤ 500 := h 35 (by decide) i
theorem c_kpri {M B : Mem} (h : CB M B) : M 48 = B 36 := h (36, 48, none) (List.mem_of_getElem? (i := 32) rfl)
theorem m_kpri {M B : Mem} (h : MB M B) : M 93 = B 36 := h (36, 93, none) (List.mem_of_getElem? (i := 33) rfl)
theorem b_kpri {B : Mem} (h : RB B) (i : Int) : 0 ≤ B 36 i ∧ B 36 i ≤ 999 := h 36 (by decide) i
theorem c_text {M B : Mem} (h : CB M B) : M 52 = B 37 := h (37, 52, none) (List.mem_of_getElem? (i := 33) rfl)
theorem m_text {M B : Mem} (h : MB M B) : M 98 = B 37 := h (37, 98, none) (List.mem_of_getElem? (i := 34) rfl)
theorem b_text {B : Mem} (h : RB B) (i : Int) : 0 ≤ B 37 i ∧ B 37 i ≤ 255 := h 37 (by decide) i
theorem c_tlen {M B : Mem} (h : CB M B) : M 11 1 = B 38 0 := h (38, 11, some 1) (List.mem_of_getElem? (i := 34) rfl)
theorem m_tlen {M B : Mem} (h : MB M B) : M 12 60 = B 38 0 := h (38, 12, some 60) (List.mem_of_getElem? (i := 35) rfl)
theorem b_tlen {B : Mem} (h : RB B) (i : Int) : 0 ≤ B 38 i ∧ B 38 i ≤ 200 := h 38 (by decide) i
theorem c_flaw {M B : Mem} (h : CB M B) : M 11 3 = B 39 0 := h (39, 11, some 3) (List.mem_of_getElem? (i := 35) rfl)
theorem m_flaw {M B : Mem} (h : MB M B) : M 12 61 = B 39 0 := h (39, 12, some 61) (List.mem_of_getElem? (i := 36) rfl)
theorem b_flaw {B : Mem} (h : RB B) (i : Int) : -1 ≤ B 39 i ∧ B 39 i ≤ 200 := h 39 (by decide) i
