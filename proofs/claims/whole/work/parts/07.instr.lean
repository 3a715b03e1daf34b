section RI
variable {p : Program} {l : Launch} {e : Env} {R : Room} {s : State} {m : MethodId} {args : Array Value} {below : List Frame} {meth : Method} {c : Code} {cells slots : Nat} {Q : State → Prop}
variable {D : va_G} {aC : Nat → ClassId} {ad : Nat → Nat} {nL : Nat} {cc : ByteArray} {own : String} {fr lo : Nat} {ret : Option FieldType}
variable {pc : Nat} {L : List (Nat × RV)} {S : List RV} {M : Mem}

theorem r_iconst (hC : rC p R s m args meth c cells slots D aC ad nL cc own fr lo ret) {n : Int} (d : decode cc pc = .ok (.iconst n, 1)) (k : rG p l e R s m args below meth c cells slots Q D aC ad nL (pc + 1) L (vI n :: S) M) : rG p l e R s m args below meth c cells slots Q D aC ad nL pc L S M := by
  intro H locs ls hP hO hS hl
  exact lv_iconst hC.1 hC.2.1 d rfl (k H locs ls hP hO hS hl)
theorem r_bipush (hC : rC p R s m args meth c cells slots D aC ad nL cc own fr lo ret) {n : Int} (d : decode cc pc = .ok (.bipush n, 2)) (h1 : (Int8.ofInt n).toInt32 = Int32.ofInt n) (k : rG p l e R s m args below meth c cells slots Q D aC ad nL (pc + 2) L (vI n :: S) M) : rG p l e R s m args below meth c cells slots Q D aC ad nL pc L S M := by
  intro H locs ls hP hO hS hl
  exact lv_bipush hC.1 hC.2.1 d h1 (k H locs ls hP hO hS hl)
theorem r_sipush (hC : rC p R s m args meth c cells slots D aC ad nL cc own fr lo ret) {n : Int} (d : decode cc pc = .ok (.sipush n, 3)) (h1 : (Int16.ofInt n).toInt32 = Int32.ofInt n) (k : rG p l e R s m args below meth c cells slots Q D aC ad nL (pc + 3) L (vI n :: S) M) : rG p l e R s m args below meth c cells slots Q D aC ad nL pc L S M := by
  intro H locs ls hP hO hS hl
  exact lv_sipush hC.1 hC.2.1 d h1 (k H locs ls hP hO hS hl)
theorem r_lconst (hC : rC p R s m args meth c cells slots D aC ad nL cc own fr lo ret) {n : Fin 2} (z : Int) (d : decode cc pc = .ok (.lconst n, 1)) (h1 : Int64.ofNat (n : Nat) = Int64.ofInt z) (k : rG p l e R s m args below meth c cells slots Q D aC ad nL (pc + 1) L (vJ z :: S) M) : rG p l e R s m args below meth c cells slots Q D aC ad nL pc L S M := by
  intro H locs ls hP hO hS hl
  exact lv_lconst hC.1 hC.2.1 d h1 (k H locs ls hP hO hS hl)
theorem r_ldc2 (hC : rC p R s m args meth c cells slots D aC ad nL cc own fr lo ret) {i : Nat} {v : Int64} (z : Int) (d : decode cc pc = .ok (.ldc2_w i, 3)) (hw : Cond.constantLong own i v ∈ lw_gd) (h1 : v = Int64.ofInt z) (k : rG p l e R s m args below meth c cells slots Q D aC ad nL (pc + 3) L (vJ z :: S) M) : rG p l e R s m args below meth c cells slots Q D aC ad nL pc L S M := by
  intro H locs ls hP hO hS hl
  subst h1
  exact lv_ldc2 hC.1 hC.2.1 hC.2.2.2.1 (hC.2.2.2.2.1 _ hw) d (k H locs ls hP hO hS hl)
theorem r_iload_n (hC : rC p R s m args meth c cells slots D aC ad nL cc own fr lo ret) {n : Fin 4} {i : Nat} {x : Int} (d : decode cc pc = .ok (.iload_n n, 1)) (hi : (n : Nat) = i) (hk : lk L i = some (vI x)) (k : rG p l e R s m args below meth c cells slots Q D aC ad nL (pc + 1) L (vI x :: S) M) : rG p l e R s m args below meth c cells slots Q D aC ad nL pc L S M := by
  intro H locs ls hP hO hS hl
  exact lv_iload_n hC.1 hC.2.1 d hi (lk_at hl hk) (k H locs ls hP hO hS hl)
theorem r_iload (hC : rC p R s m args meth c cells slots D aC ad nL cc own fr lo ret) {i : Nat} {x : Int} (d : decode cc pc = .ok (.iload i, 2)) (hk : lk L i = some (vI x)) (k : rG p l e R s m args below meth c cells slots Q D aC ad nL (pc + 2) L (vI x :: S) M) : rG p l e R s m args below meth c cells slots Q D aC ad nL pc L S M := by
  intro H locs ls hP hO hS hl
  exact lv_iload hC.1 hC.2.1 d (lk_at hl hk) (k H locs ls hP hO hS hl)
theorem r_istore_n (hC : rC p R s m args meth c cells slots D aC ad nL cc own fr lo ret) {n : Fin 4} {i : Nat} {x : Int} (d : decode cc pc = .ok (.istore_n n, 1)) (hi : (n : Nat) = i) (hb : i < nL) (k : rG p l e R s m args below meth c cells slots Q D aC ad nL (pc + 1) (rst L i (vI x)) S M) : rG p l e R s m args below meth c cells slots Q D aC ad nL pc L (vI x :: S) M := by
  intro H locs ls hP hO hS hl
  exact lv_istore_n hC.1 hC.2.1 d hi hl hb rfl (fun ls hl => k H locs ls hP hO hS (has_rst hl))
theorem r_istore (hC : rC p R s m args meth c cells slots D aC ad nL cc own fr lo ret) {i : Nat} {x : Int} (d : decode cc pc = .ok (.istore i, 2)) (hb : i < nL) (k : rG p l e R s m args below meth c cells slots Q D aC ad nL (pc + 2) (rst L i (vI x)) S M) : rG p l e R s m args below meth c cells slots Q D aC ad nL pc L (vI x :: S) M := by
  intro H locs ls hP hO hS hl
  exact lv_istore hC.1 hC.2.1 d hl hb rfl (fun ls hl => k H locs ls hP hO hS (has_rst hl))
theorem r_lload_n (hC : rC p R s m args meth c cells slots D aC ad nL cc own fr lo ret) {n : Fin 4} {i : Nat} {x : Int} (d : decode cc pc = .ok (.lload_n n, 1)) (hi : (n : Nat) = i) (hk : lk L i = some (vJ x)) (k : rG p l e R s m args below meth c cells slots Q D aC ad nL (pc + 1) L (vJ x :: S) M) : rG p l e R s m args below meth c cells slots Q D aC ad nL pc L S M := by
  intro H locs ls hP hO hS hl
  exact lv_lload_n hC.1 hC.2.1 d hi (lk_at hl hk) (k H locs ls hP hO hS hl)
theorem r_lload (hC : rC p R s m args meth c cells slots D aC ad nL cc own fr lo ret) {i : Nat} {x : Int} (d : decode cc pc = .ok (.lload i, 2)) (hk : lk L i = some (vJ x)) (k : rG p l e R s m args below meth c cells slots Q D aC ad nL (pc + 2) L (vJ x :: S) M) : rG p l e R s m args below meth c cells slots Q D aC ad nL pc L S M := by
  intro H locs ls hP hO hS hl
  exact lv_lload hC.1 hC.2.1 d (lk_at hl hk) (k H locs ls hP hO hS hl)
theorem r_lstore_n (hC : rC p R s m args meth c cells slots D aC ad nL cc own fr lo ret) {n : Fin 4} {i : Nat} {x : Int} (d : decode cc pc = .ok (.lstore_n n, 1)) (hi : (n : Nat) = i) (hb : i + 1 < nL) (k : rG p l e R s m args below meth c cells slots Q D aC ad nL (pc + 1) (rstJ L i (vJ x)) S M) : rG p l e R s m args below meth c cells slots Q D aC ad nL pc L (vJ x :: S) M := by
  intro H locs ls hP hO hS hl
  exact lv_lstore_n hC.1 hC.2.1 d hi hl hb rfl (fun ls hl => k H locs ls hP hO hS (has_rstJ hl))
theorem r_lstore (hC : rC p R s m args meth c cells slots D aC ad nL cc own fr lo ret) {i : Nat} {x : Int} (d : decode cc pc = .ok (.lstore i, 2)) (hb : i + 1 < nL) (k : rG p l e R s m args below meth c cells slots Q D aC ad nL (pc + 2) (rstJ L i (vJ x)) S M) : rG p l e R s m args below meth c cells slots Q D aC ad nL pc L (vJ x :: S) M := by
  intro H locs ls hP hO hS hl
  exact lv_lstore hC.1 hC.2.1 d hl hb rfl (fun ls hl => k H locs ls hP hO hS (has_rstJ hl))
theorem r_aload_n (hC : rC p R s m args meth c cells slots D aC ad nL cc own fr lo ret) {n : Fin 4} {i : Nat} {x : Nat} (d : decode cc pc = .ok (.aload_n n, 1)) (hi : (n : Nat) = i) (hk : lk L i = some (vR x)) (k : rG p l e R s m args below meth c cells slots Q D aC ad nL (pc + 1) L (vR x :: S) M) : rG p l e R s m args below meth c cells slots Q D aC ad nL pc L S M := by
  intro H locs ls hP hO hS hl
  exact lv_aload_n hC.1 hC.2.1 d hi (lk_at hl hk) (k H locs ls hP hO hS hl)
theorem r_aload (hC : rC p R s m args meth c cells slots D aC ad nL cc own fr lo ret) {i : Nat} {x : Nat} (d : decode cc pc = .ok (.aload i, 2)) (hk : lk L i = some (vR x)) (k : rG p l e R s m args below meth c cells slots Q D aC ad nL (pc + 2) L (vR x :: S) M) : rG p l e R s m args below meth c cells slots Q D aC ad nL pc L S M := by
  intro H locs ls hP hO hS hl
  exact lv_aload hC.1 hC.2.1 d (lk_at hl hk) (k H locs ls hP hO hS hl)
theorem r_astore_n (hC : rC p R s m args meth c cells slots D aC ad nL cc own fr lo ret) {n : Fin 4} {i : Nat} {x : Nat} (d : decode cc pc = .ok (.astore_n n, 1)) (hi : (n : Nat) = i) (hb : i < nL) (k : rG p l e R s m args below meth c cells slots Q D aC ad nL (pc + 1) (rst L i (vR x)) S M) : rG p l e R s m args below meth c cells slots Q D aC ad nL pc L (vR x :: S) M := by
  intro H locs ls hP hO hS hl
  exact lv_astore_n hC.1 hC.2.1 d hi hl hb rfl (fun ls hl => k H locs ls hP hO hS (has_rst hl))
theorem r_astore (hC : rC p R s m args meth c cells slots D aC ad nL cc own fr lo ret) {i : Nat} {x : Nat} (d : decode cc pc = .ok (.astore i, 2)) (hb : i < nL) (k : rG p l e R s m args below meth c cells slots Q D aC ad nL (pc + 2) (rst L i (vR x)) S M) : rG p l e R s m args below meth c cells slots Q D aC ad nL pc L (vR x :: S) M := by
  intro H locs ls hP hO hS hl
  exact lv_astore hC.1 hC.2.1 d hl hb rfl (fun ls hl => k H locs ls hP hO hS (has_rst hl))
theorem r_iinc (hC : rC p R s m args meth c cells slots D aC ad nL cc own fr lo ret) {i : Nat} {x n : Int} (d : decode cc pc = .ok (.iinc i n, 3)) (hk : lk L i = some (vI x)) (hb : i < nL) (k : rG p l e R s m args below meth c cells slots Q D aC ad nL (pc + 3) (rst L i (vI (x + n))) S M) : rG p l e R s m args below meth c cells slots Q D aC ad nL pc L S M := by
  intro H locs ls hP hO hS hl
  obtain ⟨j, hj⟩ := List.getElem?_of_mem (List.mem_map.mpr ⟨(i, vI x), lk_mem hk, rfl⟩ : (i, Value.int (Int32.ofInt x)) ∈ L.map (cL ad))
  exact lv_iinc (v := Int32.ofInt (x + n)) hC.1 hC.2.1 d hl hj (by rw [Int32.ofInt_add]) hb rfl (fun ls hl => k H locs ls hP hO hS (has_rst (v := vI (x + n)) hl))
theorem r_iadd (hC : rC p R s m args meth c cells slots D aC ad nL cc own fr lo ret) {a b : Int} (d : decode cc pc = .ok (.iadd, 1)) (k : rG p l e R s m args below meth c cells slots Q D aC ad nL (pc + 1) L (vI (a + b) :: S) M) : rG p l e R s m args below meth c cells slots Q D aC ad nL pc L (vI b :: vI a :: S) M := by
  intro H locs ls hP hO hS hl
  refine lv_iadd hC.1 hC.2.1 d ?_
  rw [← Int32.ofInt_add]
  exact k H locs ls hP hO hS hl
theorem r_isub (hC : rC p R s m args meth c cells slots D aC ad nL cc own fr lo ret) {a b : Int} (d : decode cc pc = .ok (.isub, 1)) (k : rG p l e R s m args below meth c cells slots Q D aC ad nL (pc + 1) L (vI (a - b) :: S) M) : rG p l e R s m args below meth c cells slots Q D aC ad nL pc L (vI b :: vI a :: S) M := by
  intro H locs ls hP hO hS hl
  refine lv_isub hC.1 hC.2.1 d ?_
  rw [← Int32.ofInt_sub]
  exact k H locs ls hP hO hS hl
theorem r_imul (hC : rC p R s m args meth c cells slots D aC ad nL cc own fr lo ret) {a b : Int} (d : decode cc pc = .ok (.imul, 1)) (k : rG p l e R s m args below meth c cells slots Q D aC ad nL (pc + 1) L (vI (a * b) :: S) M) : rG p l e R s m args below meth c cells slots Q D aC ad nL pc L (vI b :: vI a :: S) M := by
  intro H locs ls hP hO hS hl
  refine lv_imul hC.1 hC.2.1 d ?_
  rw [← Int32.ofInt_mul]
  exact k H locs ls hP hO hS hl
theorem r_ladd (hC : rC p R s m args meth c cells slots D aC ad nL cc own fr lo ret) {a b : Int} (d : decode cc pc = .ok (.ladd, 1)) (k : rG p l e R s m args below meth c cells slots Q D aC ad nL (pc + 1) L (vJ (a + b) :: S) M) : rG p l e R s m args below meth c cells slots Q D aC ad nL pc L (vJ b :: vJ a :: S) M := by
  intro H locs ls hP hO hS hl
  refine lv_ladd hC.1 hC.2.1 d ?_
  rw [← Int64.ofInt_add]
  exact k H locs ls hP hO hS hl
theorem r_lsub (hC : rC p R s m args meth c cells slots D aC ad nL cc own fr lo ret) {a b : Int} (d : decode cc pc = .ok (.lsub, 1)) (k : rG p l e R s m args below meth c cells slots Q D aC ad nL (pc + 1) L (vJ (a - b) :: S) M) : rG p l e R s m args below meth c cells slots Q D aC ad nL pc L (vJ b :: vJ a :: S) M := by
  intro H locs ls hP hO hS hl
  refine lv_lsub hC.1 hC.2.1 d ?_
  rw [← Int64.ofInt_sub]
  exact k H locs ls hP hO hS hl
theorem r_lmul (hC : rC p R s m args meth c cells slots D aC ad nL cc own fr lo ret) {a b : Int} (d : decode cc pc = .ok (.lmul, 1)) (k : rG p l e R s m args below meth c cells slots Q D aC ad nL (pc + 1) L (vJ (a * b) :: S) M) : rG p l e R s m args below meth c cells slots Q D aC ad nL pc L (vJ b :: vJ a :: S) M := by
  intro H locs ls hP hO hS hl
  refine lv_lmul hC.1 hC.2.1 d ?_
  rw [← Int64.ofInt_mul]
  exact k H locs ls hP hO hS hl
theorem r_ineg (hC : rC p R s m args meth c cells slots D aC ad nL cc own fr lo ret) {a : Int} (d : decode cc pc = .ok (.ineg, 1)) (k : rG p l e R s m args below meth c cells slots Q D aC ad nL (pc + 1) L (vI (-a) :: S) M) : rG p l e R s m args below meth c cells slots Q D aC ad nL pc L (vI a :: S) M := by
  intro H locs ls hP hO hS hl
  refine lv_ineg hC.1 hC.2.1 d ?_
  first | rw [← Int32.ofInt_neg] | (have := (Int32.ofInt_neg a).symm; rw [this])
  exact k H locs ls hP hO hS hl
theorem r_idiv (hC : rC p R s m args meth c cells slots D aC ad nL cc own fr lo ret) {a b : Int} (d : decode cc pc = .ok (.idiv, 1)) (h1 : 0 ≤ a) (h2 : a ≤ 2147483647) (h3 : 0 < b) (h4 : b ≤ 2147483647) (k : rG p l e R s m args below meth c cells slots Q D aC ad nL (pc + 1) L (vI (a / b) :: S) M) : rG p l e R s m args below meth c cells slots Q D aC ad nL pc L (vI b :: vI a :: S) M := by
  intro H locs ls hP hO hS hl
  refine lv_idiv hC.1 hC.2.1 d ?_ ?_
  · have e0 : Int32.ofInt b = 0 ↔ b = 0 := i_eq (b := 0) (by omega) h4 (by omega) (by omega)
    intro q
    exact absurd (e0.mp q) (by omega)
  · rw [i_div h1 h2 h3 h4]
    exact k H locs ls hP hO hS hl
theorem r_irem (hC : rC p R s m args meth c cells slots D aC ad nL cc own fr lo ret) {a b : Int} (d : decode cc pc = .ok (.irem, 1)) (h1 : 0 ≤ a) (h2 : a ≤ 2147483647) (h3 : 0 < b) (h4 : b ≤ 2147483647) (k : rG p l e R s m args below meth c cells slots Q D aC ad nL (pc + 1) L (vI (a % b) :: S) M) : rG p l e R s m args below meth c cells slots Q D aC ad nL pc L (vI b :: vI a :: S) M := by
  intro H locs ls hP hO hS hl
  refine lv_irem hC.1 hC.2.1 d ?_ ?_
  · have e0 : Int32.ofInt b = 0 ↔ b = 0 := i_eq (b := 0) (by omega) h4 (by omega) (by omega)
    intro q
    exact absurd (e0.mp q) (by omega)
  · rw [i_rem h1 h2 h3 h4]
    exact k H locs ls hP hO hS hl
theorem r_ldiv (hC : rC p R s m args meth c cells slots D aC ad nL cc own fr lo ret) {a b : Int} (d : decode cc pc = .ok (.ldiv, 1)) (h1 : 0 ≤ a) (h2 : a ≤ 9223372036854775807) (h3 : 0 < b) (h4 : b ≤ 9223372036854775807) (k : rG p l e R s m args below meth c cells slots Q D aC ad nL (pc + 1) L (vJ (a / b) :: S) M) : rG p l e R s m args below meth c cells slots Q D aC ad nL pc L (vJ b :: vJ a :: S) M := by
  intro H locs ls hP hO hS hl
  refine lv_ldiv hC.1 hC.2.1 d ?_ ?_
  · have e0 : Int64.ofInt b = 0 ↔ b = 0 := j_eq (b := 0) (by omega) h4 (by omega) (by omega)
    intro q
    exact absurd (e0.mp q) (by omega)
  · rw [j_div h1 h2 h3 h4]
    exact k H locs ls hP hO hS hl
theorem r_lrem (hC : rC p R s m args meth c cells slots D aC ad nL cc own fr lo ret) {a b : Int} (d : decode cc pc = .ok (.lrem, 1)) (h1 : 0 ≤ a) (h2 : a ≤ 9223372036854775807) (h3 : 0 < b) (h4 : b ≤ 9223372036854775807) (k : rG p l e R s m args below meth c cells slots Q D aC ad nL (pc + 1) L (vJ (a % b) :: S) M) : rG p l e R s m args below meth c cells slots Q D aC ad nL pc L (vJ b :: vJ a :: S) M := by
  intro H locs ls hP hO hS hl
  refine lv_lrem hC.1 hC.2.1 d ?_ ?_
  · have e0 : Int64.ofInt b = 0 ↔ b = 0 := j_eq (b := 0) (by omega) h4 (by omega) (by omega)
    intro q
    exact absurd (e0.mp q) (by omega)
  · rw [j_rem h1 h2 h3 h4]
    exact k H locs ls hP hO hS hl
theorem r_iand (hC : rC p R s m args meth c cells slots D aC ad nL cc own fr lo ret) {a b : Int} (d : decode cc pc = .ok (.iand, 1)) (k : rG p l e R s m args below meth c cells slots Q D aC ad nL (pc + 1) L (vI (bAnd a b) :: S) M) : rG p l e R s m args below meth c cells slots Q D aC ad nL pc L (vI b :: vI a :: S) M := by
  intro H locs ls hP hO hS hl
  refine lv_iand hC.1 hC.2.1 d ?_
  rw [← i_back (Int32.ofInt a &&& Int32.ofInt b)]
  exact k H locs ls hP hO hS hl
theorem r_ior (hC : rC p R s m args meth c cells slots D aC ad nL cc own fr lo ret) {a b : Int} (d : decode cc pc = .ok (.ior, 1)) (k : rG p l e R s m args below meth c cells slots Q D aC ad nL (pc + 1) L (vI (bOr a b) :: S) M) : rG p l e R s m args below meth c cells slots Q D aC ad nL pc L (vI b :: vI a :: S) M := by
  intro H locs ls hP hO hS hl
  refine lv_ior hC.1 hC.2.1 d ?_
  rw [← i_back (Int32.ofInt a ||| Int32.ofInt b)]
  exact k H locs ls hP hO hS hl
theorem r_ixor (hC : rC p R s m args meth c cells slots D aC ad nL cc own fr lo ret) {a b : Int} (d : decode cc pc = .ok (.ixor, 1)) (k : rG p l e R s m args below meth c cells slots Q D aC ad nL (pc + 1) L (vI (bXor a b) :: S) M) : rG p l e R s m args below meth c cells slots Q D aC ad nL pc L (vI b :: vI a :: S) M := by
  intro H locs ls hP hO hS hl
  refine lv_ixor hC.1 hC.2.1 d ?_
  rw [← i_back (Int32.ofInt a ^^^ Int32.ofInt b)]
  exact k H locs ls hP hO hS hl
theorem r_ishl (hC : rC p R s m args meth c cells slots D aC ad nL cc own fr lo ret) {a b : Int} (d : decode cc pc = .ok (.ishl, 1)) (k : rG p l e R s m args below meth c cells slots Q D aC ad nL (pc + 1) L (vI (bShl a b) :: S) M) : rG p l e R s m args below meth c cells slots Q D aC ad nL pc L (vI b :: vI a :: S) M := by
  intro H locs ls hP hO hS hl
  refine lv_ishl hC.1 hC.2.1 d ?_
  rw [← i_back (Int32.ofInt a <<< (Int32.ofInt b &&& 31))]
  exact k H locs ls hP hO hS hl
theorem r_ishr (hC : rC p R s m args meth c cells slots D aC ad nL cc own fr lo ret) {a b : Int} (d : decode cc pc = .ok (.ishr, 1)) (k : rG p l e R s m args below meth c cells slots Q D aC ad nL (pc + 1) L (vI (bShr a b) :: S) M) : rG p l e R s m args below meth c cells slots Q D aC ad nL pc L (vI b :: vI a :: S) M := by
  intro H locs ls hP hO hS hl
  refine lv_ishr hC.1 hC.2.1 d ?_
  rw [← i_back (Int32.ofInt a >>> (Int32.ofInt b &&& 31))]
  exact k H locs ls hP hO hS hl
theorem r_iushr (hC : rC p R s m args meth c cells slots D aC ad nL cc own fr lo ret) {a b : Int} (d : decode cc pc = .ok (.iushr, 1)) (k : rG p l e R s m args below meth c cells slots Q D aC ad nL (pc + 1) L (vI (bUshr a b) :: S) M) : rG p l e R s m args below meth c cells slots Q D aC ad nL pc L (vI b :: vI a :: S) M := by
  intro H locs ls hP hO hS hl
  exact lv_iushr (v := Int32.ofInt (bUshr a b)) hC.1 hC.2.1 d (by unfold bUshr; rw [i_back]) (k H locs ls hP hO hS hl)
theorem r_land (hC : rC p R s m args meth c cells slots D aC ad nL cc own fr lo ret) {a b : Int} (d : decode cc pc = .ok (.land, 1)) (k : rG p l e R s m args below meth c cells slots Q D aC ad nL (pc + 1) L (vJ (lAnd a b) :: S) M) : rG p l e R s m args below meth c cells slots Q D aC ad nL pc L (vJ b :: vJ a :: S) M := by
  intro H locs ls hP hO hS hl
  refine lv_land hC.1 hC.2.1 d ?_
  rw [← j_back (Int64.ofInt a &&& Int64.ofInt b)]
  exact k H locs ls hP hO hS hl
theorem r_lor (hC : rC p R s m args meth c cells slots D aC ad nL cc own fr lo ret) {a b : Int} (d : decode cc pc = .ok (.lor, 1)) (k : rG p l e R s m args below meth c cells slots Q D aC ad nL (pc + 1) L (vJ (lOr a b) :: S) M) : rG p l e R s m args below meth c cells slots Q D aC ad nL pc L (vJ b :: vJ a :: S) M := by
  intro H locs ls hP hO hS hl
  refine lv_lor hC.1 hC.2.1 d ?_
  rw [← j_back (Int64.ofInt a ||| Int64.ofInt b)]
  exact k H locs ls hP hO hS hl
theorem r_lshl (hC : rC p R s m args meth c cells slots D aC ad nL cc own fr lo ret) {a b : Int} (d : decode cc pc = .ok (.lshl, 1)) (k : rG p l e R s m args below meth c cells slots Q D aC ad nL (pc + 1) L (vJ (lShl a b) :: S) M) : rG p l e R s m args below meth c cells slots Q D aC ad nL pc L (vI b :: vJ a :: S) M := by
  intro H locs ls hP hO hS hl
  exact lv_lshl (v := Int64.ofInt (lShl a b)) hC.1 hC.2.1 d (by unfold lShl; rw [j_back]) (k H locs ls hP hO hS hl)
theorem r_lshr (hC : rC p R s m args meth c cells slots D aC ad nL cc own fr lo ret) {a b : Int} (d : decode cc pc = .ok (.lshr, 1)) (k : rG p l e R s m args below meth c cells slots Q D aC ad nL (pc + 1) L (vJ (lShr a b) :: S) M) : rG p l e R s m args below meth c cells slots Q D aC ad nL pc L (vI b :: vJ a :: S) M := by
  intro H locs ls hP hO hS hl
  exact lv_lshr (v := Int64.ofInt (lShr a b)) hC.1 hC.2.1 d (by unfold lShr; rw [j_back]) (k H locs ls hP hO hS hl)
theorem r_i2l (hC : rC p R s m args meth c cells slots D aC ad nL cc own fr lo ret) {a : Int} (d : decode cc pc = .ok (.i2l, 1)) (h1 : -2147483648 ≤ a) (h2 : a ≤ 2147483647) (k : rG p l e R s m args below meth c cells slots Q D aC ad nL (pc + 1) L (vJ a :: S) M) : rG p l e R s m args below meth c cells slots Q D aC ad nL pc L (vI a :: S) M := by
  intro H locs ls hP hO hS hl
  exact lv_i2l hC.1 hC.2.1 d (i_i2l h1 h2) (k H locs ls hP hO hS hl)
theorem r_l2i (hC : rC p R s m args meth c cells slots D aC ad nL cc own fr lo ret) {a : Int} (d : decode cc pc = .ok (.l2i, 1)) (k : rG p l e R s m args below meth c cells slots Q D aC ad nL (pc + 1) L (vI a :: S) M) : rG p l e R s m args below meth c cells slots Q D aC ad nL pc L (vJ a :: S) M := by
  intro H locs ls hP hO hS hl
  exact lv_l2i hC.1 hC.2.1 d (i_l2i a) (k H locs ls hP hO hS hl)
theorem r_dup (hC : rC p R s m args meth c cells slots D aC ad nL cc own fr lo ret) {v : RV} (d : decode cc pc = .ok (.dup, 1)) (h1 : isJ v = false) (k : rG p l e R s m args below meth c cells slots Q D aC ad nL (pc + 1) L (v :: v :: S) M) : rG p l e R s m args below meth c cells slots Q D aC ad nL pc L (v :: S) M := by
  intro H locs ls hP hO hS hl
  refine lv_dup hC.1 hC.2.1 d ?_ (k H locs ls hP hO hS hl)
  rcases v with z | z | z
  · rfl
  · cases h1
  · rfl
theorem r_pop (hC : rC p R s m args meth c cells slots D aC ad nL cc own fr lo ret) {v : RV} (d : decode cc pc = .ok (.pop, 1)) (h1 : isJ v = false) (k : rG p l e R s m args below meth c cells slots Q D aC ad nL (pc + 1) L S M) : rG p l e R s m args below meth c cells slots Q D aC ad nL pc L (v :: S) M := by
  intro H locs ls hP hO hS hl
  refine lv_pop hC.1 hC.2.1 d ?_ (k H locs ls hP hO hS hl)
  rcases v with z | z | z
  · rfl
  · cases h1
  · rfl
theorem r_dup2 (hC : rC p R s m args meth c cells slots D aC ad nL cc own fr lo ret) {v w : RV} (d : decode cc pc = .ok (.dup2, 1)) (h1 : isJ v = false) (h2 : isJ w = false) (k : rG p l e R s m args below meth c cells slots Q D aC ad nL (pc + 1) L (v :: w :: v :: w :: S) M) : rG p l e R s m args below meth c cells slots Q D aC ad nL pc L (v :: w :: S) M := by
  intro H locs ls hP hO hS hl
  refine lv_dup2_11 hC.1 hC.2.1 d ?_ ?_ (k H locs ls hP hO hS hl)
  · rcases v with z | z | z
    · rfl
    · cases h1
    · rfl
  · rcases w with z | z | z
    · rfl
    · cases h2
    · rfl
theorem r_icmp_eq (hC : rC p R s m args meth c cells slots D aC ad nL cc own fr lo ret) {a b : Int} {off : Int} (tgt : Nat) (d : decode cc pc = .ok (.if_icmp .eq off, 3)) (ht : (pc : Int) + off = (tgt : Int)) (a1 : -2147483648 ≤ a) (a2 : a ≤ 2147483647) (b1 : -2147483648 ≤ b) (b2 : b ≤ 2147483647) (kt : (a = b) → rG p l e R s m args below meth c cells slots Q D aC ad nL tgt L S M) (kf : ¬ (a = b) → rG p l e R s m args below meth c cells slots Q D aC ad nL (pc + 3) L S M) : rG p l e R s m args below meth c cells slots Q D aC ad nL pc L (vI b :: vI a :: S) M := by
  intro H locs ls hP hO hS hl
  exact lv_icmp_eq (tgt := tgt) hC.1 hC.2.1 d ht (fun q => kt ((i_eq a1 a2 b1 b2).mp (by first | exact q | exact fun z => q z)) H locs ls hP hO hS hl) (fun q => kf (fun z => q ((i_eq a1 a2 b1 b2).mpr z)) H locs ls hP hO hS hl)
theorem r_if_eq (hC : rC p R s m args meth c cells slots D aC ad nL cc own fr lo ret) {a : Int} {off : Int} (tgt : Nat) (d : decode cc pc = .ok (.ifCond .eq off, 3)) (ht : (pc : Int) + off = (tgt : Int)) (a1 : -2147483648 ≤ a) (a2 : a ≤ 2147483647) (kt : (a = 0) → rG p l e R s m args below meth c cells slots Q D aC ad nL tgt L S M) (kf : ¬ (a = 0) → rG p l e R s m args below meth c cells slots Q D aC ad nL (pc + 3) L S M) : rG p l e R s m args below meth c cells slots Q D aC ad nL pc L (vI a :: S) M := by
  intro H locs ls hP hO hS hl
  have b1 : (-2147483648 : Int) ≤ 0 := by decide
  have b2 : (0 : Int) ≤ 2147483647 := by decide
  have key := i_eq a1 a2 b1 b2
  exact lv_if_eq (tgt := tgt) hC.1 hC.2.1 d ht (fun q => kt (key.mp q) H locs ls hP hO hS hl) (fun q => kf (fun z => q (key.mpr z)) H locs ls hP hO hS hl)
theorem r_icmp_lt (hC : rC p R s m args meth c cells slots D aC ad nL cc own fr lo ret) {a b : Int} {off : Int} (tgt : Nat) (d : decode cc pc = .ok (.if_icmp .lt off, 3)) (ht : (pc : Int) + off = (tgt : Int)) (a1 : -2147483648 ≤ a) (a2 : a ≤ 2147483647) (b1 : -2147483648 ≤ b) (b2 : b ≤ 2147483647) (kt : (a < b) → rG p l e R s m args below meth c cells slots Q D aC ad nL tgt L S M) (kf : ¬ (a < b) → rG p l e R s m args below meth c cells slots Q D aC ad nL (pc + 3) L S M) : rG p l e R s m args below meth c cells slots Q D aC ad nL pc L (vI b :: vI a :: S) M := by
  intro H locs ls hP hO hS hl
  exact lv_icmp_lt (tgt := tgt) hC.1 hC.2.1 d ht (fun q => kt ((i_lt a1 a2 b1 b2).mp (by first | exact q | exact fun z => q z)) H locs ls hP hO hS hl) (fun q => kf (fun z => q ((i_lt a1 a2 b1 b2).mpr z)) H locs ls hP hO hS hl)
theorem r_if_lt (hC : rC p R s m args meth c cells slots D aC ad nL cc own fr lo ret) {a : Int} {off : Int} (tgt : Nat) (d : decode cc pc = .ok (.ifCond .lt off, 3)) (ht : (pc : Int) + off = (tgt : Int)) (a1 : -2147483648 ≤ a) (a2 : a ≤ 2147483647) (kt : (a < 0) → rG p l e R s m args below meth c cells slots Q D aC ad nL tgt L S M) (kf : ¬ (a < 0) → rG p l e R s m args below meth c cells slots Q D aC ad nL (pc + 3) L S M) : rG p l e R s m args below meth c cells slots Q D aC ad nL pc L (vI a :: S) M := by
  intro H locs ls hP hO hS hl
  have b1 : (-2147483648 : Int) ≤ 0 := by decide
  have b2 : (0 : Int) ≤ 2147483647 := by decide
  have key := i_lt a1 a2 b1 b2
  exact lv_if_lt (tgt := tgt) hC.1 hC.2.1 d ht (fun q => kt (key.mp q) H locs ls hP hO hS hl) (fun q => kf (fun z => q (key.mpr z)) H locs ls hP hO hS hl)
theorem r_icmp_ge (hC : rC p R s m args meth c cells slots D aC ad nL cc own fr lo ret) {a b : Int} {off : Int} (tgt : Nat) (d : decode cc pc = .ok (.if_icmp .ge off, 3)) (ht : (pc : Int) + off = (tgt : Int)) (a1 : -2147483648 ≤ a) (a2 : a ≤ 2147483647) (b1 : -2147483648 ≤ b) (b2 : b ≤ 2147483647) (kt : (b ≤ a) → rG p l e R s m args below meth c cells slots Q D aC ad nL tgt L S M) (kf : ¬ (b ≤ a) → rG p l e R s m args below meth c cells slots Q D aC ad nL (pc + 3) L S M) : rG p l e R s m args below meth c cells slots Q D aC ad nL pc L (vI b :: vI a :: S) M := by
  intro H locs ls hP hO hS hl
  exact lv_icmp_ge (tgt := tgt) hC.1 hC.2.1 d ht (fun q => kt ((i_le b1 b2 a1 a2).mp (by first | exact q | exact fun z => q z)) H locs ls hP hO hS hl) (fun q => kf (fun z => q ((i_le b1 b2 a1 a2).mpr z)) H locs ls hP hO hS hl)
theorem r_if_ge (hC : rC p R s m args meth c cells slots D aC ad nL cc own fr lo ret) {a : Int} {off : Int} (tgt : Nat) (d : decode cc pc = .ok (.ifCond .ge off, 3)) (ht : (pc : Int) + off = (tgt : Int)) (a1 : -2147483648 ≤ a) (a2 : a ≤ 2147483647) (kt : (0 ≤ a) → rG p l e R s m args below meth c cells slots Q D aC ad nL tgt L S M) (kf : ¬ (0 ≤ a) → rG p l e R s m args below meth c cells slots Q D aC ad nL (pc + 3) L S M) : rG p l e R s m args below meth c cells slots Q D aC ad nL pc L (vI a :: S) M := by
  intro H locs ls hP hO hS hl
  have b1 : (-2147483648 : Int) ≤ 0 := by decide
  have b2 : (0 : Int) ≤ 2147483647 := by decide
  have key := i_le b1 b2 a1 a2
  exact lv_if_ge (tgt := tgt) hC.1 hC.2.1 d ht (fun q => kt (key.mp q) H locs ls hP hO hS hl) (fun q => kf (fun z => q (key.mpr z)) H locs ls hP hO hS hl)
theorem r_icmp_gt (hC : rC p R s m args meth c cells slots D aC ad nL cc own fr lo ret) {a b : Int} {off : Int} (tgt : Nat) (d : decode cc pc = .ok (.if_icmp .gt off, 3)) (ht : (pc : Int) + off = (tgt : Int)) (a1 : -2147483648 ≤ a) (a2 : a ≤ 2147483647) (b1 : -2147483648 ≤ b) (b2 : b ≤ 2147483647) (kt : (b < a) → rG p l e R s m args below meth c cells slots Q D aC ad nL tgt L S M) (kf : ¬ (b < a) → rG p l e R s m args below meth c cells slots Q D aC ad nL (pc + 3) L S M) : rG p l e R s m args below meth c cells slots Q D aC ad nL pc L (vI b :: vI a :: S) M := by
  intro H locs ls hP hO hS hl
  exact lv_icmp_gt (tgt := tgt) hC.1 hC.2.1 d ht (fun q => kt ((i_lt b1 b2 a1 a2).mp (by first | exact q | exact fun z => q z)) H locs ls hP hO hS hl) (fun q => kf (fun z => q ((i_lt b1 b2 a1 a2).mpr z)) H locs ls hP hO hS hl)
theorem r_if_gt (hC : rC p R s m args meth c cells slots D aC ad nL cc own fr lo ret) {a : Int} {off : Int} (tgt : Nat) (d : decode cc pc = .ok (.ifCond .gt off, 3)) (ht : (pc : Int) + off = (tgt : Int)) (a1 : -2147483648 ≤ a) (a2 : a ≤ 2147483647) (kt : (0 < a) → rG p l e R s m args below meth c cells slots Q D aC ad nL tgt L S M) (kf : ¬ (0 < a) → rG p l e R s m args below meth c cells slots Q D aC ad nL (pc + 3) L S M) : rG p l e R s m args below meth c cells slots Q D aC ad nL pc L (vI a :: S) M := by
  intro H locs ls hP hO hS hl
  have b1 : (-2147483648 : Int) ≤ 0 := by decide
  have b2 : (0 : Int) ≤ 2147483647 := by decide
  have key := i_lt b1 b2 a1 a2
  exact lv_if_gt (tgt := tgt) hC.1 hC.2.1 d ht (fun q => kt (key.mp q) H locs ls hP hO hS hl) (fun q => kf (fun z => q (key.mpr z)) H locs ls hP hO hS hl)
theorem r_icmp_le (hC : rC p R s m args meth c cells slots D aC ad nL cc own fr lo ret) {a b : Int} {off : Int} (tgt : Nat) (d : decode cc pc = .ok (.if_icmp .le off, 3)) (ht : (pc : Int) + off = (tgt : Int)) (a1 : -2147483648 ≤ a) (a2 : a ≤ 2147483647) (b1 : -2147483648 ≤ b) (b2 : b ≤ 2147483647) (kt : (a ≤ b) → rG p l e R s m args below meth c cells slots Q D aC ad nL tgt L S M) (kf : ¬ (a ≤ b) → rG p l e R s m args below meth c cells slots Q D aC ad nL (pc + 3) L S M) : rG p l e R s m args below meth c cells slots Q D aC ad nL pc L (vI b :: vI a :: S) M := by
  intro H locs ls hP hO hS hl
  exact lv_icmp_le (tgt := tgt) hC.1 hC.2.1 d ht (fun q => kt ((i_le a1 a2 b1 b2).mp (by first | exact q | exact fun z => q z)) H locs ls hP hO hS hl) (fun q => kf (fun z => q ((i_le a1 a2 b1 b2).mpr z)) H locs ls hP hO hS hl)
theorem r_if_le (hC : rC p R s m args meth c cells slots D aC ad nL cc own fr lo ret) {a : Int} {off : Int} (tgt : Nat) (d : decode cc pc = .ok (.ifCond .le off, 3)) (ht : (pc : Int) + off = (tgt : Int)) (a1 : -2147483648 ≤ a) (a2 : a ≤ 2147483647) (kt : (a ≤ 0) → rG p l e R s m args below meth c cells slots Q D aC ad nL tgt L S M) (kf : ¬ (a ≤ 0) → rG p l e R s m args below meth c cells slots Q D aC ad nL (pc + 3) L S M) : rG p l e R s m args below meth c cells slots Q D aC ad nL pc L (vI a :: S) M := by
  intro H locs ls hP hO hS hl
  have b1 : (-2147483648 : Int) ≤ 0 := by decide
  have b2 : (0 : Int) ≤ 2147483647 := by decide
  have key := i_le a1 a2 b1 b2
  exact lv_if_le (tgt := tgt) hC.1 hC.2.1 d ht (fun q => kt (key.mp q) H locs ls hP hO hS hl) (fun q => kf (fun z => q (key.mpr z)) H locs ls hP hO hS hl)
theorem r_icmp_ne (hC : rC p R s m args meth c cells slots D aC ad nL cc own fr lo ret) {a b : Int} {off : Int} (tgt : Nat) (d : decode cc pc = .ok (.if_icmp .ne off, 3)) (ht : (pc : Int) + off = (tgt : Int)) (a1 : -2147483648 ≤ a) (a2 : a ≤ 2147483647) (b1 : -2147483648 ≤ b) (b2 : b ≤ 2147483647) (kt : ¬ (a = b) → rG p l e R s m args below meth c cells slots Q D aC ad nL tgt L S M) (kf : (a = b) → rG p l e R s m args below meth c cells slots Q D aC ad nL (pc + 3) L S M) : rG p l e R s m args below meth c cells slots Q D aC ad nL pc L (vI b :: vI a :: S) M := by
  intro H locs ls hP hO hS hl
  have key := i_eq a1 a2 b1 b2
  exact lv_icmp_ne (tgt := tgt) hC.1 hC.2.1 d ht (fun q => kt (fun z => q (key.mpr z)) H locs ls hP hO hS hl) (fun q => kf (key.mp (by first | exact q | exact Decidable.not_not.mp q)) H locs ls hP hO hS hl)
theorem r_if_ne (hC : rC p R s m args meth c cells slots D aC ad nL cc own fr lo ret) {a : Int} {off : Int} (tgt : Nat) (d : decode cc pc = .ok (.ifCond .ne off, 3)) (ht : (pc : Int) + off = (tgt : Int)) (a1 : -2147483648 ≤ a) (a2 : a ≤ 2147483647) (kt : ¬ (a = 0) → rG p l e R s m args below meth c cells slots Q D aC ad nL tgt L S M) (kf : (a = 0) → rG p l e R s m args below meth c cells slots Q D aC ad nL (pc + 3) L S M) : rG p l e R s m args below meth c cells slots Q D aC ad nL pc L (vI a :: S) M := by
  intro H locs ls hP hO hS hl
  have key : Int32.ofInt a = 0 ↔ a = 0 := i_eq (b := 0) a1 a2 (by decide) (by decide)
  exact lv_if_ne (tgt := tgt) hC.1 hC.2.1 d ht (fun q => kt (fun z => q (key.mpr z)) H locs ls hP hO hS hl) (fun q => kf (key.mp (by first | exact q | exact Decidable.not_not.mp q)) H locs ls hP hO hS hl)
theorem r_goto (hC : rC p R s m args meth c cells slots D aC ad nL cc own fr lo ret) {off : Int} (tgt : Nat) (d : decode cc pc = .ok (.goto off, 3)) (ht : (pc : Int) + off = (tgt : Int)) (k : rG p l e R s m args below meth c cells slots Q D aC ad nL tgt L S M) : rG p l e R s m args below meth c cells slots Q D aC ad nL pc L S M := by
  intro H locs ls hP hO hS hl
  exact lv_goto (tgt := tgt) hC.1 hC.2.1 d ht (k H locs ls hP hO hS hl)
theorem lg_cmp_of {a b : Int} (a1 : -9223372036854775808 ≤ a) (a2 : a ≤ 9223372036854775807) (b1 : -9223372036854775808 ≤ b) (b2 : b ≤ 9223372036854775807) : lg_cmp (Int64.ofInt a) (Int64.ofInt b) = Int32.ofInt (if b < a then 1 else if a = b then 0 else -1) := by
  unfold lg_cmp
  simp only [gt_iff_lt, j_lt b1 b2 a1 a2, j_eq a1 a2 b1 b2]
  split
  · rfl
  · split
    · rfl
    · rfl
theorem r_lcmp_eq (hC : rC p R s m args meth c cells slots D aC ad nL cc own fr lo ret) {a b : Int} {off : Int} (tgt : Nat) (d0 : decode cc pc = .ok (.lcmp, 1)) (d : decode cc (pc + 1) = .ok (.ifCond .eq off, 3)) (ht : ((pc + 1 : Nat) : Int) + off = (tgt : Int)) (a1 : -9223372036854775808 ≤ a) (a2 : a ≤ 9223372036854775807) (b1 : -9223372036854775808 ≤ b) (b2 : b ≤ 9223372036854775807) (kt : (a = b) → rG p l e R s m args below meth c cells slots Q D aC ad nL tgt L S M) (kf : ¬ (a = b) → rG p l e R s m args below meth c cells slots Q D aC ad nL (pc + 1 + 3) L S M) : rG p l e R s m args below meth c cells slots Q D aC ad nL pc L (vJ b :: vJ a :: S) M := by
  intro H locs ls hP hO hS hl
  refine W.lcmp hC.1 hC.2.1 d0 ?_
  rw [lg_cmp_of a1 a2 b1 b2]
  have hz : -2147483648 ≤ (if b < a then (1 : Int) else if a = b then 0 else -1) ∧ (if b < a then (1 : Int) else if a = b then 0 else -1) ≤ 2147483647 := by
    split
    · decide
    · split <;> decide
  refine r_if_eq hC tgt d ht hz.1 hz.2 (fun q => kt ?_) (fun q => kf ?_) H locs ls hP hO hS hl
  · split at q
    · omega
    · split at q <;> omega
  · split at q
    · omega
    · split at q <;> omega
theorem r_lcmp_lt (hC : rC p R s m args meth c cells slots D aC ad nL cc own fr lo ret) {a b : Int} {off : Int} (tgt : Nat) (d0 : decode cc pc = .ok (.lcmp, 1)) (d : decode cc (pc + 1) = .ok (.ifCond .lt off, 3)) (ht : ((pc + 1 : Nat) : Int) + off = (tgt : Int)) (a1 : -9223372036854775808 ≤ a) (a2 : a ≤ 9223372036854775807) (b1 : -9223372036854775808 ≤ b) (b2 : b ≤ 9223372036854775807) (kt : (a < b) → rG p l e R s m args below meth c cells slots Q D aC ad nL tgt L S M) (kf : ¬ (a < b) → rG p l e R s m args below meth c cells slots Q D aC ad nL (pc + 1 + 3) L S M) : rG p l e R s m args below meth c cells slots Q D aC ad nL pc L (vJ b :: vJ a :: S) M := by
  intro H locs ls hP hO hS hl
  refine W.lcmp hC.1 hC.2.1 d0 ?_
  rw [lg_cmp_of a1 a2 b1 b2]
  have hz : -2147483648 ≤ (if b < a then (1 : Int) else if a = b then 0 else -1) ∧ (if b < a then (1 : Int) else if a = b then 0 else -1) ≤ 2147483647 := by
    split
    · decide
    · split <;> decide
  refine r_if_lt hC tgt d ht hz.1 hz.2 (fun q => kt ?_) (fun q => kf ?_) H locs ls hP hO hS hl
  · split at q
    · omega
    · split at q <;> omega
  · split at q
    · omega
    · split at q <;> omega
theorem r_lcmp_ge (hC : rC p R s m args meth c cells slots D aC ad nL cc own fr lo ret) {a b : Int} {off : Int} (tgt : Nat) (d0 : decode cc pc = .ok (.lcmp, 1)) (d : decode cc (pc + 1) = .ok (.ifCond .ge off, 3)) (ht : ((pc + 1 : Nat) : Int) + off = (tgt : Int)) (a1 : -9223372036854775808 ≤ a) (a2 : a ≤ 9223372036854775807) (b1 : -9223372036854775808 ≤ b) (b2 : b ≤ 9223372036854775807) (kt : (b ≤ a) → rG p l e R s m args below meth c cells slots Q D aC ad nL tgt L S M) (kf : ¬ (b ≤ a) → rG p l e R s m args below meth c cells slots Q D aC ad nL (pc + 1 + 3) L S M) : rG p l e R s m args below meth c cells slots Q D aC ad nL pc L (vJ b :: vJ a :: S) M := by
  intro H locs ls hP hO hS hl
  refine W.lcmp hC.1 hC.2.1 d0 ?_
  rw [lg_cmp_of a1 a2 b1 b2]
  have hz : -2147483648 ≤ (if b < a then (1 : Int) else if a = b then 0 else -1) ∧ (if b < a then (1 : Int) else if a = b then 0 else -1) ≤ 2147483647 := by
    split
    · decide
    · split <;> decide
  refine r_if_ge hC tgt d ht hz.1 hz.2 (fun q => kt ?_) (fun q => kf ?_) H locs ls hP hO hS hl
  · split at q
    · omega
    · split at q <;> omega
  · split at q
    · omega
    · split at q <;> omega
theorem r_lcmp_gt (hC : rC p R s m args meth c cells slots D aC ad nL cc own fr lo ret) {a b : Int} {off : Int} (tgt : Nat) (d0 : decode cc pc = .ok (.lcmp, 1)) (d : decode cc (pc + 1) = .ok (.ifCond .gt off, 3)) (ht : ((pc + 1 : Nat) : Int) + off = (tgt : Int)) (a1 : -9223372036854775808 ≤ a) (a2 : a ≤ 9223372036854775807) (b1 : -9223372036854775808 ≤ b) (b2 : b ≤ 9223372036854775807) (kt : (b < a) → rG p l e R s m args below meth c cells slots Q D aC ad nL tgt L S M) (kf : ¬ (b < a) → rG p l e R s m args below meth c cells slots Q D aC ad nL (pc + 1 + 3) L S M) : rG p l e R s m args below meth c cells slots Q D aC ad nL pc L (vJ b :: vJ a :: S) M := by
  intro H locs ls hP hO hS hl
  refine W.lcmp hC.1 hC.2.1 d0 ?_
  rw [lg_cmp_of a1 a2 b1 b2]
  have hz : -2147483648 ≤ (if b < a then (1 : Int) else if a = b then 0 else -1) ∧ (if b < a then (1 : Int) else if a = b then 0 else -1) ≤ 2147483647 := by
    split
    · decide
    · split <;> decide
  refine r_if_gt hC tgt d ht hz.1 hz.2 (fun q => kt ?_) (fun q => kf ?_) H locs ls hP hO hS hl
  · split at q
    · omega
    · split at q <;> omega
  · split at q
    · omega
    · split at q <;> omega
theorem r_lcmp_le (hC : rC p R s m args meth c cells slots D aC ad nL cc own fr lo ret) {a b : Int} {off : Int} (tgt : Nat) (d0 : decode cc pc = .ok (.lcmp, 1)) (d : decode cc (pc + 1) = .ok (.ifCond .le off, 3)) (ht : ((pc + 1 : Nat) : Int) + off = (tgt : Int)) (a1 : -9223372036854775808 ≤ a) (a2 : a ≤ 9223372036854775807) (b1 : -9223372036854775808 ≤ b) (b2 : b ≤ 9223372036854775807) (kt : (a ≤ b) → rG p l e R s m args below meth c cells slots Q D aC ad nL tgt L S M) (kf : ¬ (a ≤ b) → rG p l e R s m args below meth c cells slots Q D aC ad nL (pc + 1 + 3) L S M) : rG p l e R s m args below meth c cells slots Q D aC ad nL pc L (vJ b :: vJ a :: S) M := by
  intro H locs ls hP hO hS hl
  refine W.lcmp hC.1 hC.2.1 d0 ?_
  rw [lg_cmp_of a1 a2 b1 b2]
  have hz : -2147483648 ≤ (if b < a then (1 : Int) else if a = b then 0 else -1) ∧ (if b < a then (1 : Int) else if a = b then 0 else -1) ≤ 2147483647 := by
    split
    · decide
    · split <;> decide
  refine r_if_le hC tgt d ht hz.1 hz.2 (fun q => kt ?_) (fun q => kf ?_) H locs ls hP hO hS hl
  · split at q
    · omega
    · split at q <;> omega
  · split at q
    · omega
    · split at q <;> omega
theorem r_lcmp_ne (hC : rC p R s m args meth c cells slots D aC ad nL cc own fr lo ret) {a b : Int} {off : Int} (tgt : Nat) (d0 : decode cc pc = .ok (.lcmp, 1)) (d : decode cc (pc + 1) = .ok (.ifCond .ne off, 3)) (ht : ((pc + 1 : Nat) : Int) + off = (tgt : Int)) (a1 : -9223372036854775808 ≤ a) (a2 : a ≤ 9223372036854775807) (b1 : -9223372036854775808 ≤ b) (b2 : b ≤ 9223372036854775807) (kt : ¬ (a = b) → rG p l e R s m args below meth c cells slots Q D aC ad nL tgt L S M) (kf : (a = b) → rG p l e R s m args below meth c cells slots Q D aC ad nL (pc + 1 + 3) L S M) : rG p l e R s m args below meth c cells slots Q D aC ad nL pc L (vJ b :: vJ a :: S) M := by
  intro H locs ls hP hO hS hl
  refine W.lcmp hC.1 hC.2.1 d0 ?_
  rw [lg_cmp_of a1 a2 b1 b2]
  have hz : -2147483648 ≤ (if b < a then (1 : Int) else if a = b then 0 else -1) ∧ (if b < a then (1 : Int) else if a = b then 0 else -1) ≤ 2147483647 := by
    split
    · decide
    · split <;> decide
  refine r_if_ne hC tgt d ht hz.1 hz.2 (fun q => kt ?_) (fun q => kf ?_) H locs ls hP hO hS hl
  · split at q
    · omega
    · split at q <;> omega
  · split at q
    · omega
    · split at q <;> omega
theorem r_tsw (hC : rC p R s m args meth c cells slots D aC ad nL cc own fr lo ret) {a dflt lo0 hi0 : Int} {offs : Array Int} {len : Nat} (d : decode cc pc = .ok (.tableswitch dflt lo0 hi0 offs, len)) (a1 : -2147483648 ≤ a) (a2 : a ≤ 2147483647) (dt : Nat) (ht : (pc : Int) + dflt = (dt : Int)) (kd : (a < lo0 ∨ hi0 < a) → rG p l e R s m args below meth c cells slots Q D aC ad nL dt L S M) (kk : ∀ n : Nat, a = lo0 + n → lo0 + n ≤ hi0 → ∃ off tgt, offs[n]? = some off ∧ (pc : Int) + off = ((tgt : Nat) : Int) ∧ rG p l e R s m args below meth c cells slots Q D aC ad nL tgt L S M) : rG p l e R s m args below meth c cells slots Q D aC ad nL pc L (vI a :: S) M := by
  intro H locs ls hP hO hS hl
  have e := i_toInt a1 a2
  by_cases hq : a < lo0 ∨ hi0 < a
  · exact lv_tableOut (tgt := dt) hC.1 hC.2.1 d (by rw [e]; exact hq) ht (kd hq H locs ls hP hO hS hl)
  · obtain ⟨off, tgt, h1, h2, h3⟩ := kk (a - lo0).toNat (by omega) (by omega)
    exact lv_tableIn (tgt := tgt) hC.1 hC.2.1 d (by rw [e]; omega) (by rw [e]; omega) (by rw [e]; exact h1) h2 (h3 H locs ls hP hO hS hl)
theorem r_getR (hC : rC p R s m args meth c cells slots D aC ad nL cc own fr lo ret) {h idx ci : Nat} {ref : String} (kf : Nat) (hs : shp h = .inl ci) (hk : kf < nfd ci) (hl0 : Cond.fieldLink own idx ref (ctb ci kf).2.1 (ctb ci kf).2.2.1 ∈ lw_gd) (hr : ref = (ctb ci kf).1) {tg : Nat} (hf : fda ci kf = (0, (tg : Int), 0)) (d : decode cc pc = .ok (.getfield idx, 3)) (k : rG p l e R s m args below meth c cells slots Q D aC ad nL (pc + 3) L (vR tg :: S) M) : rG p l e R s m args below meth c cells slots Q D aC ad nL pc L (vR h :: S) M := by
  intro H locs ls hP hO hS hl
  obtain ⟨c1, c2⟩ := shp_cls h ci hs
  subst hr
  refine va_get (D := D) (v := cV ad (vR tg)) (C := cnm ci) (T := ctb ci) (N := nfd ci) hC.1 hC.2.1 hC.2.2.2.2.1 (cls_lay ci c1) hC.2.2.2.1 hC.2.2.2.2.2.1 hP h ((wld_at c2).trans (by rw [ent_obj hs])) (vw_at ci c1) kf hk (hC.2.2.2.2.1 _ hl0) (fun _ h9 => h9) ((fLs_at hk).trans (by rw [hf]; rfl)) d ?_
  exact k H locs ls hP hO hS hl
theorem r_getI (hC : rC p R s m args meth c cells slots D aC ad nL cc own fr lo ret) {h idx ci : Nat} {ref : String} (kf : Nat) (hs : shp h = .inl ci) (hk : kf < nfd ci) (hl0 : Cond.fieldLink own idx ref (ctb ci kf).2.1 (ctb ci kf).2.2.1 ∈ lw_gd) (hr : ref = (ctb ci kf).1) {lo1 hi1 : Int} (hf : fda ci kf = (1, lo1, hi1)) (d : decode cc pc = .ok (.getfield idx, 3)) (k : lo1 ≤ M h kf → M h kf ≤ hi1 → rG p l e R s m args below meth c cells slots Q D aC ad nL (pc + 3) L (vI (M h kf) :: S) M) : rG p l e R s m args below meth c cells slots Q D aC ad nL pc L (vR h :: S) M := by
  intro H locs ls hP hO hS hl
  obtain ⟨c1, c2⟩ := shp_cls h ci hs
  subst hr
  refine va_get (D := D) (v := cV ad (vI (M h kf))) (C := cnm ci) (T := ctb ci) (N := nfd ci) hC.1 hC.2.1 hC.2.2.2.2.1 (cls_lay ci c1) hC.2.2.2.1 hC.2.2.2.2.2.1 hP h ((wld_at c2).trans (by rw [ent_obj hs])) (vw_at ci c1) kf hk (hC.2.2.2.2.1 _ hl0) (fun _ h9 => h9) ((fLs_at hk).trans (by rw [hf]; rfl)) d ?_
  exact k (hO.fld c2 hs hk hf (by decide)).1 (hO.fld c2 hs hk hf (by decide)).2 H locs ls hP hO hS hl
theorem r_getJ (hC : rC p R s m args meth c cells slots D aC ad nL cc own fr lo ret) {h idx ci : Nat} {ref : String} (kf : Nat) (hs : shp h = .inl ci) (hk : kf < nfd ci) (hl0 : Cond.fieldLink own idx ref (ctb ci kf).2.1 (ctb ci kf).2.2.1 ∈ lw_gd) (hr : ref = (ctb ci kf).1) {lo1 hi1 : Int} (hf : fda ci kf = (2, lo1, hi1)) (d : decode cc pc = .ok (.getfield idx, 3)) (k : lo1 ≤ M h kf → M h kf ≤ hi1 → rG p l e R s m args below meth c cells slots Q D aC ad nL (pc + 3) L (vJ (M h kf) :: S) M) : rG p l e R s m args below meth c cells slots Q D aC ad nL pc L (vR h :: S) M := by
  intro H locs ls hP hO hS hl
  obtain ⟨c1, c2⟩ := shp_cls h ci hs
  subst hr
  refine va_get (D := D) (v := cV ad (vJ (M h kf))) (C := cnm ci) (T := ctb ci) (N := nfd ci) hC.1 hC.2.1 hC.2.2.2.2.1 (cls_lay ci c1) hC.2.2.2.1 hC.2.2.2.2.2.1 hP h ((wld_at c2).trans (by rw [ent_obj hs])) (vw_at ci c1) kf hk (hC.2.2.2.2.1 _ hl0) (fun _ h9 => h9) ((fLs_at hk).trans (by rw [hf]; rfl)) d ?_
  exact k (hO.fld c2 hs hk hf (by decide)).1 (hO.fld c2 hs hk hf (by decide)).2 H locs ls hP hO hS hl
theorem r_putI (hC : rC p R s m args meth c cells slots D aC ad nL cc own fr lo ret) {h idx ci : Nat} {ref : String} (kf : Nat) (hs : shp h = .inl ci) (hk : kf < nfd ci) (hl0 : Cond.fieldLink own idx ref (ctb ci kf).2.1 (ctb ci kf).2.2.1 ∈ lw_gd) (hr : ref = (ctb ci kf).1) {lo1 hi1 z : Int} (hf : fda ci kf = (1, lo1, hi1)) (h1 : lo1 ≤ z) (h2 : z ≤ hi1) (d : decode cc pc = .ok (.putfield idx, 3)) (k : rG p l e R s m args below meth c cells slots Q D aC ad nL (pc + 3) L S (mset M h kf z)) : rG p l e R s m args below meth c cells slots Q D aC ad nL pc L (vI z :: vR h :: S) M := by
  intro H locs ls hP hO hS hl
  obtain ⟨c1, c2⟩ := shp_cls h ci hs
  subst hr
  have hne : (fda ci kf).1 ≠ 0 := by rw [hf]; simp
  obtain ⟨n1, n2⟩ := cls_num ci c1 kf hk hne
  have hty : parseFieldDescriptor (ctb ci kf).2.2.1 = some .int := by
    rw [cls_ty ci c1 kf hk, n2]
    show some (fty (fda ci kf).1) = _
    rw [hf]; rfl
  refine va_put (D := D) (ci := ci) (v := cV ad (vI z)) (ty := .int) (C := cnm ci) (T := ctb ci) (N := nfd ci) (fs := fLs ad M h ci) hC.1 hC.2.1 hC.2.2.2.2.1 (cls_lay ci c1) (cty ci) (cls_ty ci c1) (cls_nm ci c1) hC.2.2.2.1 hC.2.2.2.2.2.1 hP (wld_D hC.2.2.2.2.2.2.1) hS h ((wld_at c2).trans (by rw [ent_obj hs])) (vw_at ci c1) kf hk (hC.2.2.2.2.1 _ hl0) (fun _ h9 => h9) n1 hty rfl rfl (by simpa [fLs] using hk) d (fun H1 locs1 hP1 hD1 hS1 => ?_)
  rw [fLs_set (z := z) hk hne (by rw [hf]; simp [fVal, mset_eq, cV]), wld_set (i := kf) (z := z) c2 (by rw [ent_obj hs])] at hP1
  exact k H1 locs1 ls hP1 (hO.setF hs hf h1 h2) hS1 hl
theorem r_putJ (hC : rC p R s m args meth c cells slots D aC ad nL cc own fr lo ret) {h idx ci : Nat} {ref : String} (kf : Nat) (hs : shp h = .inl ci) (hk : kf < nfd ci) (hl0 : Cond.fieldLink own idx ref (ctb ci kf).2.1 (ctb ci kf).2.2.1 ∈ lw_gd) (hr : ref = (ctb ci kf).1) {lo1 hi1 z : Int} (hf : fda ci kf = (2, lo1, hi1)) (h1 : lo1 ≤ z) (h2 : z ≤ hi1) (d : decode cc pc = .ok (.putfield idx, 3)) (k : rG p l e R s m args below meth c cells slots Q D aC ad nL (pc + 3) L S (mset M h kf z)) : rG p l e R s m args below meth c cells slots Q D aC ad nL pc L (vJ z :: vR h :: S) M := by
  intro H locs ls hP hO hS hl
  obtain ⟨c1, c2⟩ := shp_cls h ci hs
  subst hr
  have hne : (fda ci kf).1 ≠ 0 := by rw [hf]; simp
  obtain ⟨n1, n2⟩ := cls_num ci c1 kf hk hne
  have hty : parseFieldDescriptor (ctb ci kf).2.2.1 = some .long := by
    rw [cls_ty ci c1 kf hk, n2]
    show some (fty (fda ci kf).1) = _
    rw [hf]; rfl
  refine va_put (D := D) (ci := ci) (v := cV ad (vJ z)) (ty := .long) (C := cnm ci) (T := ctb ci) (N := nfd ci) (fs := fLs ad M h ci) hC.1 hC.2.1 hC.2.2.2.2.1 (cls_lay ci c1) (cty ci) (cls_ty ci c1) (cls_nm ci c1) hC.2.2.2.1 hC.2.2.2.2.2.1 hP (wld_D hC.2.2.2.2.2.2.1) hS h ((wld_at c2).trans (by rw [ent_obj hs])) (vw_at ci c1) kf hk (hC.2.2.2.2.1 _ hl0) (fun _ h9 => h9) n1 hty rfl rfl (by simpa [fLs] using hk) d (fun H1 locs1 hP1 hD1 hS1 => ?_)
  rw [fLs_set (z := z) hk hne (by rw [hf]; simp [fVal, mset_eq, cV]), wld_set (i := kf) (z := z) c2 (by rw [ent_obj hs])] at hP1
  exact k H1 locs1 ls hP1 (hO.setF hs hf h1 h2) hS1 hl
theorem r_iald (hC : rC p R s m args meth c cells slots D aC ad nL cc own fr lo ret) {h n : Nat} {lo1 hi1 i : Int} (hs : shp h = .inr (0, n, lo1, hi1)) (h1 : 0 ≤ i) (h2 : i < n) (hn : n ≤ 2147483647) (hh : h < nHd) (d : decode cc pc = .ok (.iaload, 1)) (k : lo1 ≤ M h i → M h i ≤ hi1 → rG p l e R s m args below meth c cells slots Q D aC ad nL (pc + 1) L (vI (M h i) :: S) M) : rG p l e R s m args below meth c cells slots Q D aC ad nL pc L (vI i :: vR h :: S) M := by
  intro H locs ls hP hO hS hl
  obtain ⟨b1, b2⟩ := hO.arr hh hs i
  refine va_iald hC.1 hC.2.1 hC.2.2.2.2.2.1 hP h 0 ((wld_at hh).trans (by rw [ent_arr 0 (by decide) hs])) rfl (i_in h1 h2 hn) d ?_
  have h := k b1 b2 H locs ls hP hO hS hl
  rw [i_clamp h1 (by omega), Int.toNat_of_nonneg h1]
  exact h
theorem r_zald (hC : rC p R s m args meth c cells slots D aC ad nL cc own fr lo ret) {h n : Nat} {lo1 hi1 i : Int} (hs : shp h = .inr (1, n, lo1, hi1)) (h1 : 0 ≤ i) (h2 : i < n) (hn : n ≤ 2147483647) (hh : h < nHd) (d : decode cc pc = .ok (.baload, 1)) (k : lo1 ≤ M h i → M h i ≤ hi1 → rG p l e R s m args below meth c cells slots Q D aC ad nL (pc + 1) L (vI (M h i) :: S) M) : rG p l e R s m args below meth c cells slots Q D aC ad nL pc L (vI i :: vR h :: S) M := by
  intro H locs ls hP hO hS hl
  obtain ⟨b1, b2⟩ := hO.arr hh hs i
  refine va_zald hC.1 hC.2.1 hC.2.2.2.2.2.1 hP h 1 ((wld_at hh).trans (by rw [ent_arr 1 (by decide) hs])) rfl (i_in h1 h2 hn) d ?_
  have h := k b1 b2 H locs ls hP hO hS hl
  rw [i_clamp h1 (by omega), Int.toNat_of_nonneg h1]
  exact h
theorem r_lald (hC : rC p R s m args meth c cells slots D aC ad nL cc own fr lo ret) {h n : Nat} {lo1 hi1 i : Int} (hs : shp h = .inr (2, n, lo1, hi1)) (h1 : 0 ≤ i) (h2 : i < n) (hn : n ≤ 2147483647) (hh : h < nHd) (d : decode cc pc = .ok (.laload, 1)) (k : lo1 ≤ M h i → M h i ≤ hi1 → rG p l e R s m args below meth c cells slots Q D aC ad nL (pc + 1) L (vJ (M h i) :: S) M) : rG p l e R s m args below meth c cells slots Q D aC ad nL pc L (vI i :: vR h :: S) M := by
  intro H locs ls hP hO hS hl
  obtain ⟨b1, b2⟩ := hO.arr hh hs i
  refine va_lald hC.1 hC.2.1 hC.2.2.2.2.2.1 hP h 2 ((wld_at hh).trans (by rw [ent_arrL hs])) rfl (i_in h1 h2 hn) d ?_
  have h := k b1 b2 H locs ls hP hO hS hl
  rw [i_clamp h1 (by omega), Int.toNat_of_nonneg h1]
  exact h
theorem r_iast (hC : rC p R s m args meth c cells slots D aC ad nL cc own fr lo ret) {h n : Nat} {lo1 hi1 i : Int} {z : Int} (hs : shp h = .inr (0, n, lo1, hi1)) (h1 : 0 ≤ i) (h2 : i < n) (hn : n ≤ 2147483647) (hh : h < nHd) (h3 : lo1 ≤ z) (h4 : z ≤ hi1) (d : decode cc pc = .ok (.iastore, 1)) (k : rG p l e R s m args below meth c cells slots Q D aC ad nL (pc + 1) L S (mset M h i z)) : rG p l e R s m args below meth c cells slots Q D aC ad nL pc L (vI z :: vI i :: vR h :: S) M := by
  intro H locs ls hP hO hS hl
  refine va_iast hC.1 hC.2.1 hC.2.2.2.2.2.1 hP (wld_D hC.2.2.2.2.2.2.1) hS h 0 ((wld_at hh).trans (by rw [ent_arr 0 (by decide) hs])) rfl (i_in h1 h2 hn) d (fun H1 locs1 hP1 hD1 hS1 => ?_)
  rw [wld_set (i := i) (z := z) hh (by
    rw [ent_arr 0 (by decide) hs]
    congr 4
    funext j
    rw [i_clamp h1 (by omega)]
    unfold upd
    rw [mset_eq]
    by_cases hj : j = i.toNat
    · have : (j : Int) = i := by rw [hj]; exact Int.toNat_of_nonneg h1
      simp [hj, Int.toNat_of_nonneg h1]
    · have : ¬ (j : Int) = i := fun q => hj (by omega)
      simp [hj, this])] at hP1
  exact k H1 locs1 ls hP1 (hO.setA hs h3 h4) hS1 hl
theorem r_zast (hC : rC p R s m args meth c cells slots D aC ad nL cc own fr lo ret) {h n : Nat} {lo1 hi1 i : Int} {z : Int} (hs : shp h = .inr (1, n, lo1, hi1)) (h1 : 0 ≤ i) (h2 : i < n) (hn : n ≤ 2147483647) (hh : h < nHd) (h3 : lo1 ≤ z) (h4 : z ≤ hi1) (hz : vp_nar .boolean (Int32.ofInt z) = Int32.ofInt z) (d : decode cc pc = .ok (.bastore, 1)) (k : rG p l e R s m args below meth c cells slots Q D aC ad nL (pc + 1) L S (mset M h i z)) : rG p l e R s m args below meth c cells slots Q D aC ad nL pc L (vI z :: vI i :: vR h :: S) M := by
  intro H locs ls hP hO hS hl
  refine va_zast hC.1 hC.2.1 hC.2.2.2.2.2.1 hP (wld_D hC.2.2.2.2.2.2.1) hS h 1 ((wld_at hh).trans (by rw [ent_arr 1 (by decide) hs])) rfl (i_in h1 h2 hn) d (fun H1 locs1 hP1 hD1 hS1 => ?_)
  rw [wld_set (i := i) (z := z) hh (by
    rw [ent_arr 1 (by decide) hs]
    congr 4
    funext j
    rw [i_clamp h1 (by omega)]
    unfold upd
    rw [mset_eq]
    by_cases hj : j = i.toNat
    · have : (j : Int) = i := by rw [hj]; exact Int.toNat_of_nonneg h1
      simp [hj, Int.toNat_of_nonneg h1, hz]
    · have : ¬ (j : Int) = i := fun q => hj (by omega)
      simp [hj, this])] at hP1
  exact k H1 locs1 ls hP1 (hO.setA hs h3 h4) hS1 hl
theorem r_last (hC : rC p R s m args meth c cells slots D aC ad nL cc own fr lo ret) {h n : Nat} {lo1 hi1 i : Int} {z : Int} (hs : shp h = .inr (2, n, lo1, hi1)) (h1 : 0 ≤ i) (h2 : i < n) (hn : n ≤ 2147483647) (hh : h < nHd) (h3 : lo1 ≤ z) (h4 : z ≤ hi1) (d : decode cc pc = .ok (.lastore, 1)) (k : rG p l e R s m args below meth c cells slots Q D aC ad nL (pc + 1) L S (mset M h i z)) : rG p l e R s m args below meth c cells slots Q D aC ad nL pc L (vJ z :: vI i :: vR h :: S) M := by
  intro H locs ls hP hO hS hl
  refine va_last hC.1 hC.2.1 hC.2.2.2.2.2.1 hP (wld_D hC.2.2.2.2.2.2.1) hS h 2 ((wld_at hh).trans (by rw [ent_arrL hs])) rfl (i_in h1 h2 hn) d (fun H1 locs1 hP1 hD1 hS1 => ?_)
  rw [wld_set (i := i) (z := z) hh (by
    rw [ent_arrL hs]
    congr 5
    funext j
    rw [i_clamp h1 (by omega)]
    unfold vp_updL
    rw [mset_eq]
    by_cases hj : j = i.toNat
    · have : (j : Int) = i := by rw [hj]; exact Int.toNat_of_nonneg h1
      simp [hj, Int.toNat_of_nonneg h1]
    · have : ¬ (j : Int) = i := fun q => hj (by omega)
      simp [hj, this])] at hP1
  exact k H1 locs1 ls hP1 (hO.setA hs h3 h4) hS1 hl
theorem r_alen (hC : rC p R s m args meth c cells slots D aC ad nL cc own fr lo ret) {h n t : Nat} {lo1 hi1 : Int} (hs : shp h = .inr (t, n, lo1, hi1)) (ht : t < 3) (hh : h < nHd) (d : decode cc pc = .ok (.arraylength, 1)) (k : rG p l e R s m args below meth c cells slots Q D aC ad nL (pc + 1) L (vI n :: S) M) : rG p l e R s m args below meth c cells slots Q D aC ad nL pc L (vR h :: S) M := by
  intro H locs ls hP hO hS hl
  have hk := k H locs ls hP hO hS hl
  have e0 : Int32.ofNat n = Int32.ofInt (n : Int) := by first | rfl | simp | exact (Int32.ofInt_eq_ofNat).symm
  rcases (show t = 0 ∨ t = 1 ∨ t = 2 by omega) with rfl | rfl | rfl
  · exact va_alen hC.1 hC.2.1 hC.2.2.2.2.2.1 hP h 0 ((wld_at hh).trans (by rw [ent_arr 0 (by decide) hs])) rfl e0 d hk
  · exact va_alen hC.1 hC.2.1 hC.2.2.2.2.2.1 hP h 1 ((wld_at hh).trans (by rw [ent_arr 1 (by decide) hs])) rfl e0 d hk
  · exact va_alen hC.1 hC.2.1 hC.2.2.2.2.2.1 hP h 2 ((wld_at hh).trans (by rw [ent_arrL hs])) rfl e0 d hk
end RI
