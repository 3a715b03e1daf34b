/-! ===== CONSTRUCTORS: a world that is being made: its handles in order of making, and which reference fields have been set ===== -/
def zin (zl : List (Nat × Nat)) (h k : Nat) : Bool := zl.any fun q => Nat.beq q.1 h && Nat.beq q.2 k
def fVP (ad : Nat → Nat) (zl : List (Nat × Nat)) (M : Mem) (h k : Nat) (d : Nat × Int × Int) : Value :=
  if d.1 = 0 then (if zin zl h k = true then .ref (ad d.2.1.toNat) else .null) else if d.1 = 2 then .long (Int64.ofInt (M h k)) else .int (Int32.ofInt (M h k))
def fLP (ad : Nat → Nat) (zl : List (Nat × Nat)) (M : Mem) (h ci : Nat) : List Value := (List.range (nfd ci)).map fun k => fVP ad zl M h k (fda ci k)
def entP (aC : Nat → ClassId) (ad : Nat → Nat) (zl : List (Nat × Nat)) (M : Mem) (h : Nat) : va_E :=
  match shp h with
  | .inl ci => .inr (ci, fLP ad zl M h ci)
  | .inr (t, n, _, _) => .inl (aC t, n, if t = 2 then .inr (.inl fun j => Int64.ofInt (M h j)) else .inl fun j => Int32.ofInt (M h j))
def pw (aC : Nat → ClassId) (ad : Nat → Nat) (zl : List (Nat × Nat)) (M : Mem) (hs : List Nat) : va_W := hs.map fun h => (ad h, entP aC ad zl M h)
abbrev nA (n0 : Nat) : Nat → Prop := fun q => n0 ≤ q
def adu (ad : Nat → Nat) (h q : Nat) : Nat → Nat := fun x => if x = h then q else ad x
theorem adu_ne {ad : Nat → Nat} {h q x : Nat} (e : x ≠ h) : adu ad h q x = ad x := if_neg e
theorem adu_eq {ad : Nat → Nat} {h q : Nat} : adu ad h q h = q := if_pos rfl
def tgt (h k : Nat) : Nat := match shp h with
  | .inl ci => (fda ci k).2.1.toNat
  | .inr _ => 0
def nrf (h : Nat) : RV → Bool
  | .inr (.inr x) => !(Nat.beq x h)
  | _ => true
def frs (zl : List (Nat × Nat)) (hs h0 : List Nat) (L : List (Nat × RV)) (S : List RV) (h : Nat) : Bool :=
  (hs.all fun x => !(Nat.beq x h)) && ((h0.all fun x => !(Nat.beq x h)) && ((zl.all fun q => !(Nat.beq (tgt q.1 q.2) h) && !(Nat.beq q.1 h)) && ((L.all fun q => nrf h q.2) && (S.all fun v => nrf h v))))
theorem bne_of {x h : Nat} (e : (!(Nat.beq x h)) = true) : x ≠ h := by
  intro q
  rw [q, Nat.beq_refl] at e
  cases e
theorem cV_adu {ad : Nat → Nat} {h q : Nat} {v : RV} (e : nrf h v = true) : cV (adu ad h q) v = cV ad v := by
  rcases v with z | z | z
  · rfl
  · rfl
  · show Value.ref (adu ad h q z) = Value.ref (ad z)
    rw [adu_ne (bne_of e)]
theorem zin_mem {zl : List (Nat × Nat)} {h k : Nat} (e : zin zl h k = true) : (h, k) ∈ zl := by
  unfold zin at e
  obtain ⟨q, hq, hb⟩ := List.any_eq_true.mp e
  rw [Bool.and_eq_true] at hb
  have e1 := Nat.eq_of_beq_eq_true hb.1
  have e2 := Nat.eq_of_beq_eq_true hb.2
  rw [← e1, ← e2]
  exact hq
theorem entP_adu {aC : Nat → ClassId} {ad : Nat → Nat} {zl : List (Nat × Nat)} {M : Mem} {h q h' : Nat} (hz : (zl.all fun q => !(Nat.beq (tgt q.1 q.2) h) && !(Nat.beq q.1 h)) = true) : entP aC (adu ad h q) zl M h' = entP aC ad zl M h' := by
  unfold entP
  cases hs : shp h' with
  | inr x => rfl
  | inl ci =>
    show Sum.inr (ci, fLP (adu ad h q) zl M h' ci) = Sum.inr (ci, fLP ad zl M h' ci)
    congr 2
    unfold fLP
    apply List.map_congr_left
    intro k _
    unfold fVP
    by_cases hd : (fda ci k).1 = 0
    · rw [if_pos hd, if_pos hd]
      by_cases hb : zin zl h' k = true
      · rw [if_pos hb, if_pos hb]
        have := List.all_eq_true.mp hz _ (zin_mem hb)
        rw [Bool.and_eq_true] at this
        have ne := bne_of this.1
        have et : tgt h' k = (fda ci k).2.1.toNat := by unfold tgt; rw [hs]
        rw [et] at ne
        rw [adu_ne ne]
      · rw [if_neg hb, if_neg hb]
    · rw [if_neg hd, if_neg hd]
theorem pw_adu {aC : Nat → ClassId} {ad : Nat → Nat} {zl : List (Nat × Nat)} {M : Mem} {hs : List Nat} {h q : Nat} (h1 : (hs.all fun x => !(Nat.beq x h)) = true) (hz : (zl.all fun q => !(Nat.beq (tgt q.1 q.2) h) && !(Nat.beq q.1 h)) = true) : pw aC (adu ad h q) zl M hs = pw aC ad zl M hs := by
  unfold pw
  apply List.map_congr_left
  intro x hx
  rw [entP_adu hz, adu_ne (bne_of (List.all_eq_true.mp h1 x hx))]
theorem pw_at {aC : Nat → ClassId} {ad : Nat → Nat} {zl : List (Nat × Nat)} {M : Mem} {hs : List Nat} {q0 h : Nat} (hq : hs[q0]? = some h) : (pw aC ad zl M hs)[q0]? = some (ad h, entP aC ad zl M h) := by
  simp [pw, List.getElem?_map, hq]
theorem pw_set {A : Nat → Prop} {aC : Nat → ClassId} {ad : Nat → Nat} {zl zl' : List (Nat × Nat)} {M M' : Mem} {hs : List Nat} {q0 h : Nat} {x : va_E} (hD : va_D A (pw aC ad zl M hs)) (hq : hs[q0]? = some h) (ho : ∀ h', h' ≠ h → entP aC ad zl' M' h' = entP aC ad zl M h') (hx : x = entP aC ad zl' M' h) : (pw aC ad zl M hs).set q0 (ad h, x) = pw aC ad zl' M' hs := by
  subst hx
  apply List.ext_getElem?
  intro k
  have hlt : q0 < (pw aC ad zl M hs).length := by
    have := (List.getElem?_eq_some_iff.mp hq).1
    simpa [pw] using this
  by_cases e : q0 = k
  · subst e
    rw [List.getElem?_set_self hlt, pw_at hq]
  · rw [List.getElem?_set_ne e]
    cases hk : hs[k]? with
    | none => simp [pw, List.getElem?_map, hk]
    | some h' =>
      rw [pw_at hk, pw_at hk]
      have ne : h' ≠ h := by
        intro q
        subst q
        exact e (hD.1 q0 k _ _ (pw_at hq) (pw_at hk) rfl)
      rw [ho h' ne]
theorem entP_M {aC : Nat → ClassId} {ad : Nat → Nat} {zl : List (Nat × Nat)} {M M' : Mem} {h : Nat} (e : M' h = M h) : entP aC ad zl M' h = entP aC ad zl M h := by
  unfold entP fLP fVP
  rw [e]
theorem entP_z {aC : Nat → ClassId} {ad : Nat → Nat} {zl : List (Nat × Nat)} {M : Mem} {h h' k : Nat} (e : h' ≠ h) : entP aC ad ((h, k) :: zl) M h' = entP aC ad zl M h' := by
  unfold entP fLP fVP
  have : ∀ j, zin ((h, k) :: zl) h' j = zin zl h' j := by
    intro j
    unfold zin
    rw [List.any_cons]
    cases hb : Nat.beq (h, k).1 h' with
    | true => exact absurd (Nat.eq_of_beq_eq_true hb).symm e
    | false => rfl
  simp only [this]
theorem entP_obj {aC : Nat → ClassId} {ad : Nat → Nat} {zl : List (Nat × Nat)} {M : Mem} {h ci : Nat} (e : shp h = .inl ci) : entP aC ad zl M h = .inr (ci, fLP ad zl M h ci) := by
  unfold entP; rw [e]
theorem entP_arr {aC : Nat → ClassId} {ad : Nat → Nat} {zl : List (Nat × Nat)} {M : Mem} {h n t : Nat} {lo hi : Int} (e : shp h = .inr (t, n, lo, hi)) : entP aC ad zl M h = .inl (aC t, n, if t = 2 then .inr (.inl fun j => Int64.ofInt (M h j)) else .inl fun j => Int32.ofInt (M h j)) := by
  unfold entP; rw [e]
theorem fLP_at {ad : Nat → Nat} {zl : List (Nat × Nat)} {M : Mem} {h ci k : Nat} (hk : k < nfd ci) : (fLP ad zl M h ci)[k]? = some (fVP ad zl M h k (fda ci k)) := by
  simp [fLP, List.getElem?_map, List.getElem?_range hk]
theorem fLP_len {ad : Nat → Nat} {zl : List (Nat × Nat)} {M : Mem} {h ci : Nat} : (fLP ad zl M h ci).length = nfd ci := by
  simp [fLP]
theorem fLP_set {ad : Nat → Nat} {zl zl' : List (Nat × Nat)} {M M' : Mem} {h ci k : Nat} {v : Value} (hk : k < nfd ci) (hv : v = fVP ad zl' M' h k (fda ci k)) (ho : ∀ j, j ≠ k → fVP ad zl' M' h j (fda ci j) = fVP ad zl M h j (fda ci j)) : (fLP ad zl M h ci).set k v = fLP ad zl' M' h ci := by
  subst hv
  apply List.ext_getElem?
  intro j
  by_cases hj : j < nfd ci
  · rw [fLP_at hj]
    by_cases e : k = j
    · subst e
      rw [List.getElem?_set_self (by rw [fLP_len]; exact hk)]
    · rw [List.getElem?_set_ne e, fLP_at hj, ho j (fun q => e q.symm)]
  · rw [List.getElem?_eq_none (by rw [List.length_set, fLP_len]; exact Nat.le_of_not_lt hj), List.getElem?_eq_none (by rw [fLP_len]; exact Nat.le_of_not_lt hj)]
def isRT : FieldType → Bool
  | .object _ => true
  | .array _ => true
  | _ => false
theorem cls_ref : ∀ ci, ci < 13 → ∀ k, k < nfd ci → ((fds ci).getD k (0, 0, 0)).1 = 0 → (ctb ci k).2.2.2 = true ∧ isRT (cty ci k) = true := by decide +kernel
theorem cls_nr : ∀ ci, ci < 13 → ∀ k, k < nfd ci → ((fds ci).getD k (0, 0, 0)).1 ≠ 0 → defaultValue (cty ci k) = if ((fds ci).getD k (0, 0, 0)).1 = 2 then .long (Int64.ofInt 0) else .int (Int32.ofInt 0) := by decide +kernel
theorem isRT_ok {t : FieldType} (h : isRT t = true) : defaultValue t = .null ∧ ∀ a : Nat, narrow t (.ref a) = .ref a ∧ fits t (.ref a) = true := by
  cases t <;> first | (cases h; done) | exact ⟨rfl, fun a => ⟨rfl, rfl⟩⟩
/-! what stands beside: nest links, the array of the first rules -/
def Sc (f0 n0 : Nat) (U : State) (H : Heap) : Prop := (∀ w ∈ lw_nest, va_Nw w U) ∧ va_Z "SoupSand$Rules" (stN 0) "[I" (.ref f0) (nA n0) U H ∧ va_T .int f0 10 (fun j => .int (Int32.ofInt ((stT 0).getD j 0))) (nA n0) U H
theorem Sc.move {f0 n0 : Nat} {s U : State} {H : Heap} {locs : List Loc} (h : Sc f0 n0 s s.heap) (hS : va_S (nA n0) s.heap H locs) (hU : U.heap = H) (hW : s.WarmedH U.vm) : Sc f0 n0 U U.heap := by
  obtain ⟨h1, h2, h3⟩ := h
  have hk : ∀ a : Nat, a < s.heap.size → ¬ nA n0 a → U.heap[a]? = s.heap[a]? := fun a g1 g2 => by rw [hU]; exact hS.2.1 a g1 g2
  refine ⟨fun w hw => ?_, (va_Z.moved hW.alike h2).kept hk, (va_T.moved hW.alike h3).kept hk⟩
  obtain ⟨a, i, y, b, rfl⟩ := lw_nest_form w hw
  exact (h1 _ hw).warmM hW
theorem Sc.same {f0 n0 : Nat} {u U : State} (hv : U.vm = u.vm) (hh : U.heap = u.heap) (h : Sc f0 n0 u u.heap) : Sc f0 n0 U U.heap := by
  obtain ⟨h1, h2, h3⟩ := h
  have hA : u.vm.Alike U.vm := by rw [hv]; exact Vm.Alike.refl _
  rw [hh]
  refine ⟨fun w hw => ?_, va_Z.moved hA h2, va_T.moved hA h3⟩
  obtain ⟨a, i, y, b, rfl⟩ := lw_nest_form w hw
  exact (h1 _ hw).same rfl hv.symm
section CR
variable {p : Program} {l : Launch} {e : Env} {R : Room} {s : State} {m : MethodId} {args : Array Value} {below : List Frame} {meth : Method} {c : Code} {cells slots : Nat} {Q : State → Prop}
variable {D : va_G} {aC : Nat → ClassId} {nL : Nat} {cc : ByteArray} {own : String} {fr lo mc ms n0 f0 : Nat} {ret : Option FieldType} {ad0 : Nat → Nat} {h0 : List Nat}
variable {pc : Nat} {L : List (Nat × RV)} {S : List RV} {M : Mem} {hs : List Nat} {zl : List (Nat × Nat)}
def cC (p : Program) (R : Room) (s : State) (m : MethodId) (args : Array Value) (meth : Method) (c : Code) (D : va_G) (aC : Nat → ClassId) (n0 f0 nL : Nat) (cc : ByteArray) (own : String) (fr lo mc ms : Nat) (ret : Option FieldType) : Prop :=
  p.tables.exec = Jvm.exec ∧ c.code = cc ∧ c.maxLocals = nL ∧ s.vm.findClass own = some m.cls ∧ (∀ w ∈ lw_gd, w.before args s = true) ∧ va_K D vwCl (tysA aC) s ∧ n0 ≤ s.heap.size ∧ Sc f0 n0 s s.heap ∧ meth.sig.returnType = ret ∧ meth.locks = false ∧ (fr ≤ R.frames ∧ lo ≤ R.locals ∧ mc ≤ R.cells ∧ ms ≤ R.slots)
def cG (p : Program) (l : Launch) (e : Env) (R : Room) (s : State) (m : MethodId) (args : Array Value) (below : List Frame) (meth : Method) (c : Code) (cells slots : Nat) (Q : State → Prop) (D : va_G) (aC : Nat → ClassId) (n0 : Nat) (ad0 : Nat → Nat) (h0 : List Nat) (nL : Nat) (hs : List Nat) (zl : List (Nat × Nat)) (pc : Nat) (L : List (Nat × RV)) (S : List RV) (M : Mem) : Prop :=
  ∀ (ad : Nat → Nat) (H : Heap) (locs : List Loc) (ls : Array Slot), (∀ h, h ∈ h0 ∨ 99 ≤ h → ad h = ad0 h) → va_P D vwCl (pw aC ad zl M hs) H → va_D (nA n0) (pw aC ad zl M hs) → va_S (nA n0) s.heap H locs → lv_has ls nL (L.map (cL ad)) → W p l e R s m args below meth c H locs cells slots Q (F0 m pc ls (S.map (cV ad)))

theorem c_iconst (hC : cC p R s m args meth c D aC n0 f0 nL cc own fr lo mc ms ret) {n : Int} (d : decode cc pc = .ok (.iconst n, 1)) (k : cG p l e R s m args below meth c cells slots Q D aC n0 ad0 h0 nL hs zl (pc + 1) L (vI n :: S) M) : cG p l e R s m args below meth c cells slots Q D aC n0 ad0 h0 nL hs zl pc L S M := by
  intro ad H locs ls g hP hD hS hl
  exact lv_iconst hC.1 hC.2.1 d rfl (k ad H locs ls g hP hD hS hl)
theorem c_bipush (hC : cC p R s m args meth c D aC n0 f0 nL cc own fr lo mc ms ret) {n : Int} (d : decode cc pc = .ok (.bipush n, 2)) (h1 : (Int8.ofInt n).toInt32 = Int32.ofInt n) (k : cG p l e R s m args below meth c cells slots Q D aC n0 ad0 h0 nL hs zl (pc + 2) L (vI n :: S) M) : cG p l e R s m args below meth c cells slots Q D aC n0 ad0 h0 nL hs zl pc L S M := by
  intro ad H locs ls g hP hD hS hl
  exact lv_bipush hC.1 hC.2.1 d h1 (k ad H locs ls g hP hD hS hl)
theorem c_sipush (hC : cC p R s m args meth c D aC n0 f0 nL cc own fr lo mc ms ret) {n : Int} (d : decode cc pc = .ok (.sipush n, 3)) (h1 : (Int16.ofInt n).toInt32 = Int32.ofInt n) (k : cG p l e R s m args below meth c cells slots Q D aC n0 ad0 h0 nL hs zl (pc + 3) L (vI n :: S) M) : cG p l e R s m args below meth c cells slots Q D aC n0 ad0 h0 nL hs zl pc L S M := by
  intro ad H locs ls g hP hD hS hl
  exact lv_sipush hC.1 hC.2.1 d h1 (k ad H locs ls g hP hD hS hl)
theorem c_iload_n (hC : cC p R s m args meth c D aC n0 f0 nL cc own fr lo mc ms ret) {n : Fin 4} {i : Nat} {x : Int} (d : decode cc pc = .ok (.iload_n n, 1)) (hi : (n : Nat) = i) (hk : lk L i = some (vI x)) (k : cG p l e R s m args below meth c cells slots Q D aC n0 ad0 h0 nL hs zl (pc + 1) L (vI x :: S) M) : cG p l e R s m args below meth c cells slots Q D aC n0 ad0 h0 nL hs zl pc L S M := by
  intro ad H locs ls g hP hD hS hl
  exact lv_iload_n hC.1 hC.2.1 d hi (lk_at hl hk) (k ad H locs ls g hP hD hS hl)
theorem c_istore_n (hC : cC p R s m args meth c D aC n0 f0 nL cc own fr lo mc ms ret) {n : Fin 4} {i : Nat} {x : Int} (d : decode cc pc = .ok (.istore_n n, 1)) (hi : (n : Nat) = i) (hb : i < nL) (k : cG p l e R s m args below meth c cells slots Q D aC n0 ad0 h0 nL hs zl (pc + 1) (rst L i (vI x)) S M) : cG p l e R s m args below meth c cells slots Q D aC n0 ad0 h0 nL hs zl pc L (vI x :: S) M := by
  intro ad H locs ls g hP hD hS hl
  exact lv_istore_n hC.1 hC.2.1 d hi hl hb rfl (fun ls hl => k ad H locs ls g hP hD hS (has_rst hl))
theorem c_aload_n (hC : cC p R s m args meth c D aC n0 f0 nL cc own fr lo mc ms ret) {n : Fin 4} {i : Nat} {x : Nat} (d : decode cc pc = .ok (.aload_n n, 1)) (hi : (n : Nat) = i) (hk : lk L i = some (vR x)) (k : cG p l e R s m args below meth c cells slots Q D aC n0 ad0 h0 nL hs zl (pc + 1) L (vR x :: S) M) : cG p l e R s m args below meth c cells slots Q D aC n0 ad0 h0 nL hs zl pc L S M := by
  intro ad H locs ls g hP hD hS hl
  exact lv_aload_n hC.1 hC.2.1 d hi (lk_at hl hk) (k ad H locs ls g hP hD hS hl)
theorem c_astore_n (hC : cC p R s m args meth c D aC n0 f0 nL cc own fr lo mc ms ret) {n : Fin 4} {i : Nat} {x : Nat} (d : decode cc pc = .ok (.astore_n n, 1)) (hi : (n : Nat) = i) (hb : i < nL) (k : cG p l e R s m args below meth c cells slots Q D aC n0 ad0 h0 nL hs zl (pc + 1) (rst L i (vR x)) S M) : cG p l e R s m args below meth c cells slots Q D aC n0 ad0 h0 nL hs zl pc L (vR x :: S) M := by
  intro ad H locs ls g hP hD hS hl
  exact lv_astore_n hC.1 hC.2.1 d hi hl hb rfl (fun ls hl => k ad H locs ls g hP hD hS (has_rst hl))
theorem c_iinc (hC : cC p R s m args meth c D aC n0 f0 nL cc own fr lo mc ms ret) {i : Nat} {x n : Int} (d : decode cc pc = .ok (.iinc i n, 3)) (hk : lk L i = some (vI x)) (hb : i < nL) (k : cG p l e R s m args below meth c cells slots Q D aC n0 ad0 h0 nL hs zl (pc + 3) (rst L i (vI (x + n))) S M) : cG p l e R s m args below meth c cells slots Q D aC n0 ad0 h0 nL hs zl pc L S M := by
  intro ad H locs ls g hP hD hS hl
  obtain ⟨j, hj⟩ := List.getElem?_of_mem (List.mem_map.mpr ⟨(i, vI x), lk_mem hk, rfl⟩ : (i, Value.int (Int32.ofInt x)) ∈ L.map (cL ad))
  exact lv_iinc (v := Int32.ofInt (x + n)) hC.1 hC.2.1 d hl hj (by rw [Int32.ofInt_add]) hb rfl (fun ls hl => k ad H locs ls g hP hD hS (has_rst (v := vI (x + n)) hl))
theorem c_iadd (hC : cC p R s m args meth c D aC n0 f0 nL cc own fr lo mc ms ret) {a b : Int} (d : decode cc pc = .ok (.iadd, 1)) (k : cG p l e R s m args below meth c cells slots Q D aC n0 ad0 h0 nL hs zl (pc + 1) L (vI (a + b) :: S) M) : cG p l e R s m args below meth c cells slots Q D aC n0 ad0 h0 nL hs zl pc L (vI b :: vI a :: S) M := by
  intro ad H locs ls g hP hD hS hl
  refine lv_iadd hC.1 hC.2.1 d ?_
  rw [← Int32.ofInt_add]
  exact k ad H locs ls g hP hD hS hl
theorem c_isub (hC : cC p R s m args meth c D aC n0 f0 nL cc own fr lo mc ms ret) {a b : Int} (d : decode cc pc = .ok (.isub, 1)) (k : cG p l e R s m args below meth c cells slots Q D aC n0 ad0 h0 nL hs zl (pc + 1) L (vI (a - b) :: S) M) : cG p l e R s m args below meth c cells slots Q D aC n0 ad0 h0 nL hs zl pc L (vI b :: vI a :: S) M := by
  intro ad H locs ls g hP hD hS hl
  refine lv_isub hC.1 hC.2.1 d ?_
  rw [← Int32.ofInt_sub]
  exact k ad H locs ls g hP hD hS hl
theorem c_irem (hC : cC p R s m args meth c D aC n0 f0 nL cc own fr lo mc ms ret) {a b : Int} (d : decode cc pc = .ok (.irem, 1)) (h1 : 0 ≤ a) (h2 : a ≤ 2147483647) (h3 : 0 < b) (h4 : b ≤ 2147483647) (k : cG p l e R s m args below meth c cells slots Q D aC n0 ad0 h0 nL hs zl (pc + 1) L (vI (a % b) :: S) M) : cG p l e R s m args below meth c cells slots Q D aC n0 ad0 h0 nL hs zl pc L (vI b :: vI a :: S) M := by
  intro ad H locs ls g hP hD hS hl
  refine lv_irem hC.1 hC.2.1 d ?_ ?_
  · have e0 : Int32.ofInt b = 0 ↔ b = 0 := i_eq (b := 0) (by omega) h4 (by omega) (by omega)
    intro q
    exact absurd (e0.mp q) (by omega)
  · rw [i_rem h1 h2 h3 h4]
    exact k ad H locs ls g hP hD hS hl
theorem c_dup (hC : cC p R s m args meth c D aC n0 f0 nL cc own fr lo mc ms ret) {v : RV} (d : decode cc pc = .ok (.dup, 1)) (h1 : isJ v = false) (k : cG p l e R s m args below meth c cells slots Q D aC n0 ad0 h0 nL hs zl (pc + 1) L (v :: v :: S) M) : cG p l e R s m args below meth c cells slots Q D aC n0 ad0 h0 nL hs zl pc L (v :: S) M := by
  intro ad H locs ls g hP hD hS hl
  refine lv_dup hC.1 hC.2.1 d ?_ (k ad H locs ls g hP hD hS hl)
  rcases v with z | z | z
  · rfl
  · cases h1
  · rfl
theorem c_icmp_ge (hC : cC p R s m args meth c D aC n0 f0 nL cc own fr lo mc ms ret) {a b : Int} {off : Int} (tgt : Nat) (d : decode cc pc = .ok (.if_icmp .ge off, 3)) (ht : (pc : Int) + off = (tgt : Int)) (a1 : -2147483648 ≤ a) (a2 : a ≤ 2147483647) (b1 : -2147483648 ≤ b) (b2 : b ≤ 2147483647) (kt : (b ≤ a) → cG p l e R s m args below meth c cells slots Q D aC n0 ad0 h0 nL hs zl tgt L S M) (kf : ¬ (b ≤ a) → cG p l e R s m args below meth c cells slots Q D aC n0 ad0 h0 nL hs zl (pc + 3) L S M) : cG p l e R s m args below meth c cells slots Q D aC n0 ad0 h0 nL hs zl pc L (vI b :: vI a :: S) M := by
  intro ad H locs ls g hP hD hS hl
  exact lv_icmp_ge (tgt := tgt) hC.1 hC.2.1 d ht (fun q => kt ((i_le b1 b2 a1 a2).mp (by first | exact q | exact fun z => q z)) ad H locs ls g hP hD hS hl) (fun q => kf (fun z => q ((i_le b1 b2 a1 a2).mpr z)) ad H locs ls g hP hD hS hl)
theorem c_goto (hC : cC p R s m args meth c D aC n0 f0 nL cc own fr lo mc ms ret) {off : Int} (tgt : Nat) (d : decode cc pc = .ok (.goto off, 3)) (ht : (pc : Int) + off = (tgt : Int)) (k : cG p l e R s m args below meth c cells slots Q D aC n0 ad0 h0 nL hs zl tgt L S M) : cG p l e R s m args below meth c cells slots Q D aC n0 ad0 h0 nL hs zl pc L S M := by
  intro ad H locs ls g hP hD hS hl
  exact lv_goto (tgt := tgt) hC.1 hC.2.1 d ht (k ad H locs ls g hP hD hS hl)
/-- Object's own constructor -/
theorem c_obj (hC : cC p R s m args meth c D aC n0 f0 nL cc own fr lo mc ms ret) {idx h : Nat} (km : Cond.methodLink own idx Lib.objectInit ∈ lw_gd) (kI : Cond.instanceMethod Lib.objectInit ∈ lw_gd) (kc : Cond.code Lib.objectInit ⟨#[0xb1]⟩ 1 none ∈ lw_gd) (hf : 1 ≤ fr) (hw : wid S + 12 ≤ lo) (d : decode cc pc = .ok (.invokespecial idx, 3)) (k : cG p l e R s m args below meth c cells slots Q D aC n0 ad0 h0 nL hs zl (pc + 3) L S M) : cG p l e R s m args below meth c cells slots Q D aC n0 ad0 h0 nL hs zl pc L (vR h :: S) M := by
  intro ad H locs ls g hP hD hS hl
  have hrm := hC.2.2.2.2.2.2.2.2.2.2
  refine W.objInit (a := ad h) (rest := S.map (cV ad)) hC.1 hC.2.1 hC.2.2.2.1 (hC.2.2.2.2.1 _ km) (hC.2.2.2.2.1 _ kI) (hC.2.2.2.2.1 _ kc) rfl (hl.1.trans hC.2.2.1.symm) rfl d (Nat.le_trans hf hrm.1) ?_ ?_
  · show 2 * 0 + _ + 12 ≤ _
    rw [cat_sum]
    omega
  · exact W.eq (g2 := F0 m (pc + 3) ls (S.map (cV ad))) rfl (k ad H locs ls g hP hD hS hl)
theorem mem_adu {ad : Nat → Nat} {h q : Nat} (hL : (L.all fun q => nrf h q.2) = true) : L.map (cL (adu ad h q)) = L.map (cL ad) := by
  apply List.map_congr_left
  intro x hx
  show (x.1, _) = (x.1, _)
  rw [cV_adu (List.all_eq_true.mp hL x hx)]
theorem stk_adu {ad : Nat → Nat} {h q : Nat} (hL : (S.all fun v => nrf h v) = true) : S.map (cV (adu ad h q)) = S.map (cV ad) := by
  apply List.map_congr_left
  intro x hx
  rw [cV_adu (List.all_eq_true.mp hL x hx)]
def aty (t : Nat) : FieldType := if t = 2 then .long else if t = 1 then .boolean else .int
theorem c_newa (hC : cC p R s m args meth c D aC n0 f0 nL cc own fr lo mc ms ret) {atype : ArrayType} {h t N : Nat} {lo1 hi1 : Int} {hs' : List Nat} {cells' slots' : Nat} (kA : Cond.arrayClass (newarray.typeOf atype) ∈ lw_gd) (ht : t < 3) (hty : newarray.typeOf atype = aty t) (hs0 : shp h = .inr (t, N, lo1, hi1)) (hM : ∀ j, M h j = 0) (hN : N ≤ 5000) (h99 : h < 99) (hfr : frs zl hs h0 L S h = true) (eh : hs ++ [h] = hs') (ec : cells + 1 = cells') (es : slots + N = slots') (hcells : cells' ≤ mc) (hslots : slots' ≤ ms) (d : decode cc pc = .ok (.newarray atype, 2))
    (k : cG p l e R s m args below meth c cells' slots' Q D aC n0 ad0 h0 nL hs' zl (pc + 2) L (vR h :: S) M) : cG p l e R s m args below meth c cells slots Q D aC n0 ad0 h0 nL hs zl pc L (vI N :: S) M := by
  intro ad H locs ls g hP hD hS hl
  subst eh; subst ec; subst es
  have hrm := hC.2.2.2.2.2.2.2.2.2.2
  have hK := hC.2.2.2.2.2.1
  unfold frs at hfr
  simp only [Bool.and_eq_true] at hfr
  obtain ⟨f1, f2, f3, f4, f5⟩ := hfr
  have hM2 : (M h : Int → Int) = fun _ => 0 := funext hM
  refine va_newa (n := Int32.ofInt N) (N' := N) (ty := aty t) (a0 := (N, if t = 2 then .inr (.inl fun j => Int64.ofInt (M h j)) else .inl fun j => Int32.ofInt (M h j))) hC.1 hC.2.1 (hC.2.2.2.2.1 _ kA) hty hK hP hD hS (fun q hq => Nat.le_trans hC.2.2.2.2.2.2.1 hq) (fun cA => ?_) (fun q => ?_) (by rw [i_clamp (by omega) (by omega)]; omega) ?_ (Nat.le_trans hcells hrm.2.2.1) (Nat.le_trans hslots hrm.2.2.2) d (fun q cA H1 hK1 hP1 hD1 hS1 => ?_)
  · rw [hM2]
    rcases (show t = 0 ∨ t = 1 ∨ t = 2 by omega) with rfl | rfl | rfl <;> rfl
  · have := (i_lt (a := N) (b := 0) (by omega) (by omega) (by decide) (by decide)).mp q
    omega
  · rcases (show t = 0 ∨ t = 1 ∨ t = 2 by omega) with rfl | rfl | rfl
    · show N * 4 ≤ _; omega
    · show N * 1 ≤ _; omega
    · show N * 8 ≤ _; omega
  · have ecA : cA = aC t := by
      have h1 := (hK1.2 3 (cA, aty t) rfl).2
      rcases (show t = 0 ∨ t = 1 ∨ t = 2 by omega) with rfl | rfl | rfl
      · exact Option.some.inj (Eq.trans (Eq.symm h1) (hK.2 0 _ rfl).2)
      · exact Option.some.inj (Eq.trans (Eq.symm h1) (hK.2 1 _ rfl).2)
      · exact Option.some.inj (Eq.trans (Eq.symm h1) (hK.2 2 _ rfl).2)
    subst ecA
    have ew : pw aC ad zl M hs ++ [(q, .inl (aC t, (N, if t = 2 then .inr (.inl fun j => Int64.ofInt (M h j)) else .inl fun j => Int32.ofInt (M h j))))] = pw aC (adu ad h q) zl M (hs ++ [h]) := by
      show _ = (hs ++ [h]).map _
      rw [List.map_append]
      show _ = pw aC (adu ad h q) zl M hs ++ [(adu ad h q h, entP aC (adu ad h q) zl M h)]
      rw [pw_adu f1 f3, adu_eq, entP_arr hs0]
    rw [ew] at hP1 hD1
    have := k (adu ad h q) H1 locs ls (fun x hx => by
      have ne : x ≠ h := by
        rcases hx with hx | hx
        · exact bne_of (List.all_eq_true.mp f2 x hx)
        · omega
      rw [adu_ne ne]; exact g x hx) hP1 hD1 hS1 (by rw [mem_adu f4]; exact hl)
    have eS : (vR h :: S).map (cV (adu ad h q)) = .ref q :: S.map (cV ad) := by
      rw [List.map_cons, stk_adu f5]
      show Value.ref (adu ad h q h) :: _ = _
      rw [adu_eq]
    rw [eS] at this
    exact this
theorem c_putF (hC : cC p R s m args meth c D aC n0 f0 nL cc own fr lo mc ms ret) (hN : meth.name = "<init>") {h idx ci tg : Nat} (kf q0 : Nat) (hs0 : shp h = .inl ci) (hq : hs[q0]? = some h) (hk : kf < nfd ci) (hl0 : Cond.fieldLink own idx (ctb ci kf).1 (ctb ci kf).2.1 (ctb ci kf).2.2.1 ∈ lw_gd) (ho : (ctb ci kf).1 = own) (hf : fda ci kf = (0, (tg : Int), 0)) (d : decode cc pc = .ok (.putfield idx, 3))
    (k : cG p l e R s m args below meth c cells slots Q D aC n0 ad0 h0 nL hs ((h, kf) :: zl) (pc + 3) L S M) : cG p l e R s m args below meth c cells slots Q D aC n0 ad0 h0 nL hs zl pc L (vR tg :: vR h :: S) M := by
  intro ad H locs ls g hP hD hS hl
  obtain ⟨c1, c2⟩ := shp_cls h ci hs0
  have hz : ((fds ci).getD kf (0, 0, 0)).1 = 0 := by
    show (fda ci kf).1 = 0
    rw [hf]
  obtain ⟨n1, n2⟩ := cls_ref ci c1 kf hk hz
  obtain ⟨r1, r2⟩ := isRT_ok n2
  refine va_putF (D := D) (ci := ci) (v := .ref (ad tg)) (ty := cty ci kf) (C := cnm ci) (T := ctb ci) (N := nfd ci) (fs := fLP ad zl M h ci) hC.1 hC.2.1 hC.2.2.2.2.1 (cls_lay ci c1) (cty ci) (cls_ty ci c1) (cls_nm ci c1) hC.2.2.2.1 hC.2.2.2.2.2.1 hP hD hS q0 ((pw_at hq).trans (by rw [entP_obj hs0])) (vw_at ci c1) kf hk (hC.2.2.2.2.1 _ hl0) (fun _ h9 => h9) n1 hN ho (cls_ty ci c1 kf hk) (r2 _).1 (r2 _).2 (by rw [fLP_len]; exact hk) d (fun H1 locs1 hP1 hD1 hS1 => ?_)
  have ew : (pw aC ad zl M hs).set q0 (ad h, .inr (ci, (fLP ad zl M h ci).set kf (.ref (ad tg)))) = pw aC ad ((h, kf) :: zl) M hs := by
    refine pw_set hD hq (fun h' ne => entP_z ne) ?_
    rw [entP_obj hs0, fLP_set (zl' := (h, kf) :: zl) (M' := M) hk ?_ ?_]
    · unfold fVP
      rw [hf]
      have : zin ((h, kf) :: zl) h kf = true := by
        unfold zin
        rw [List.any_cons]
        show ((Nat.beq h h && Nat.beq kf kf) || _) = true
        rw [Nat.beq_refl, Nat.beq_refl]
        rfl
      rw [if_pos rfl, if_pos this]
      rfl
    · intro j hj
      unfold fVP
      have : zin ((h, kf) :: zl) h j = zin zl h j := by
        unfold zin
        rw [List.any_cons]
        show ((Nat.beq h h && Nat.beq kf j) || _) = _
        cases hb : Nat.beq kf j with
        | true => exact absurd (Nat.eq_of_beq_eq_true hb).symm hj
        | false => rw [Nat.beq_refl]; rfl
      rw [this]
  rw [ew] at hP1 hD1
  exact k ad H1 locs1 ls g hP1 hD1 hS1 hl
theorem c_putI (hC : cC p R s m args meth c D aC n0 f0 nL cc own fr lo mc ms ret) {h idx ci : Nat} (kf q0 : Nat) (hs0 : shp h = .inl ci) (hq : hs[q0]? = some h) (hk : kf < nfd ci) (hl0 : Cond.fieldLink own idx (ctb ci kf).1 (ctb ci kf).2.1 (ctb ci kf).2.2.1 ∈ lw_gd) {lo1 hi1 z : Int} (hf : fda ci kf = (1, lo1, hi1)) (d : decode cc pc = .ok (.putfield idx, 3))
    (k : cG p l e R s m args below meth c cells slots Q D aC n0 ad0 h0 nL hs zl (pc + 3) L S (mset M h kf z)) : cG p l e R s m args below meth c cells slots Q D aC n0 ad0 h0 nL hs zl pc L (vI z :: vR h :: S) M := by
  intro ad H locs ls g hP hD hS hl
  obtain ⟨c1, c2⟩ := shp_cls h ci hs0
  have hne : (fda ci kf).1 ≠ 0 := by rw [hf]; simp
  obtain ⟨n1, n2⟩ := cls_num ci c1 kf hk hne
  have hty : parseFieldDescriptor (ctb ci kf).2.2.1 = some .int := by
    rw [cls_ty ci c1 kf hk, n2]
    show some (fty (fda ci kf).1) = _
    rw [hf]; rfl
  refine va_put (D := D) (ci := ci) (v := cV ad (vI z)) (ty := .int) (C := cnm ci) (T := ctb ci) (N := nfd ci) (fs := fLP ad zl M h ci) hC.1 hC.2.1 hC.2.2.2.2.1 (cls_lay ci c1) (cty ci) (cls_ty ci c1) (cls_nm ci c1) hC.2.2.2.1 hC.2.2.2.2.2.1 hP hD hS q0 ((pw_at hq).trans (by rw [entP_obj hs0])) (vw_at ci c1) kf hk (hC.2.2.2.2.1 _ hl0) (fun _ h9 => h9) n1 hty rfl rfl (by rw [fLP_len]; exact hk) d (fun H1 locs1 hP1 hD1 hS1 => ?_)
  have ew : (pw aC ad zl M hs).set q0 (ad h, .inr (ci, (fLP ad zl M h ci).set kf (cV ad (vI z)))) = pw aC ad zl (mset M h kf z) hs := by
    refine pw_set hD hq (fun h' ne => entP_M (mset_ne ne)) ?_
    rw [entP_obj hs0, fLP_set (zl' := zl) (M' := mset M h kf z) hk ?_ ?_]
    · unfold fVP
      rw [hf]
      simp [mset_eq, cV]
    · intro j hj
      unfold fVP
      rw [mset_eq]
      have : ¬ (j : Int) = (kf : Int) := fun q => hj (Int.ofNat_inj.mp q)
      simp [this]
  rw [ew] at hP1 hD1
  exact k ad H1 locs1 ls g hP1 hD1 hS1 hl
theorem c_getR (hC : cC p R s m args meth c D aC n0 f0 nL cc own fr lo mc ms ret) {h idx ci tg : Nat} (kf q0 : Nat) (hs0 : shp h = .inl ci) (hq : hs[q0]? = some h) (hk : kf < nfd ci) (hl0 : Cond.fieldLink own idx (ctb ci kf).1 (ctb ci kf).2.1 (ctb ci kf).2.2.1 ∈ lw_gd) (hf : fda ci kf = (0, (tg : Int), 0)) (hz : zin zl h kf = true) (d : decode cc pc = .ok (.getfield idx, 3)) (k : cG p l e R s m args below meth c cells slots Q D aC n0 ad0 h0 nL hs zl (pc + 3) L (vR tg :: S) M) : cG p l e R s m args below meth c cells slots Q D aC n0 ad0 h0 nL hs zl pc L (vR h :: S) M := by
  intro ad H locs ls g hP hD hS hl
  obtain ⟨c1, c2⟩ := shp_cls h ci hs0
  refine va_get (D := D) (v := cV ad (vR tg)) (C := cnm ci) (T := ctb ci) (N := nfd ci) hC.1 hC.2.1 hC.2.2.2.2.1 (cls_lay ci c1) hC.2.2.2.1 hC.2.2.2.2.2.1 hP q0 ((pw_at hq).trans (by rw [entP_obj hs0])) (vw_at ci c1) kf hk (hC.2.2.2.2.1 _ hl0) (fun _ h9 => h9) ((fLP_at hk).trans ?_) d ?_
  · unfold fVP
    rw [hf, if_pos rfl, if_pos hz]
    rfl
  · exact k ad H locs ls g hP hD hS hl
theorem c_iast (hC : cC p R s m args meth c D aC n0 f0 nL cc own fr lo mc ms ret) {h n : Nat} {lo1 hi1 i z : Int} (q0 : Nat) (hs0 : shp h = .inr (0, n, lo1, hi1)) (hq : hs[q0]? = some h) (h1 : 0 ≤ i) (h2 : i < n) (hn : n ≤ 2147483647) (d : decode cc pc = .ok (.iastore, 1)) (k : cG p l e R s m args below meth c cells slots Q D aC n0 ad0 h0 nL hs zl (pc + 1) L S (mset M h i z)) : cG p l e R s m args below meth c cells slots Q D aC n0 ad0 h0 nL hs zl pc L (vI z :: vI i :: vR h :: S) M := by
  intro ad H locs ls g hP hD hS hl
  refine va_iast (i := Int32.ofInt i) (x := Int32.ofInt z) hC.1 hC.2.1 hC.2.2.2.2.2.1 hP hD hS q0 0 ((pw_at hq).trans (by rw [entP_arr hs0, if_neg (by decide)])) rfl (i_in h1 h2 hn) d (fun H1 locs1 hP1 hD1 hS1 => ?_)
  have ew : (pw aC ad zl M hs).set q0 (ad h, .inl (aC 0, n, .inl (upd (fun j => Int32.ofInt (M h j)) (Int32.ofInt i).toNatClampNeg (Int32.ofInt z)))) = pw aC ad zl (mset M h i z) hs := by
    refine pw_set hD hq (fun h' ne => entP_M (mset_ne ne)) ?_
    rw [entP_arr hs0, if_neg (by decide)]
    congr 4
    funext j
    rw [i_clamp h1 (by omega), mset_eq]
    unfold upd
    show _ = Int32.ofInt (if (j : Int) = i then z else M h j)
    by_cases e : j = i.toNat
    · rw [if_pos e, if_pos (by omega)]
    · rw [if_neg e, if_neg (by omega)]
  rw [ew] at hP1 hD1
  exact k ad H1 locs1 ls g hP1 hD1 hS1 hl
theorem c_gets (hC : cC p R s m args meth c D aC n0 f0 nL cc own fr lo mc ms ret) {idx : Nat} (kz : Cond.fieldLink own idx "SoupSand$Rules" (stN 0) "[I" ∈ lw_gd) (d : decode cc pc = .ok (.getstatic idx, 3)) (hf0 : 201 ∈ h0) (ha : ad0 201 = f0) (k : cG p l e R s m args below meth c cells slots Q D aC n0 ad0 h0 nL hs zl (pc + 3) L (vR 201 :: S) M) : cG p l e R s m args below meth c cells slots Q D aC n0 ad0 h0 nL hs zl pc L S M := by
  intro ad H locs ls g hP hD hS hl
  have e1 : ad 201 = f0 := (g 201 (Or.inr (by decide))).trans ha
  have := k ad H locs ls g hP hD hS hl
  have e2 : (vR 201 :: S).map (cV ad) = .ref f0 :: S.map (cV ad) := by rw [List.map_cons]; show Value.ref (ad 201) :: _ = _; rw [e1]
  rw [e2] at this
  exact va_gets hC.1 hC.2.1 hC.2.2.2.2.2.2.2.1.2.1 hS hC.2.2.2.1 (hC.2.2.2.2.1 _ kz) (fun _ h9 => h9) d this
theorem c_stald (hC : cC p R s m args meth c D aC n0 f0 nL cc own fr lo mc ms ret) {i : Int} (h1 : 0 ≤ i) (h2 : i < 10) (d : decode cc pc = .ok (.iaload, 1)) (hf0 : 201 ∈ h0) (ha : ad0 201 = f0) (k : cG p l e R s m args below meth c cells slots Q D aC n0 ad0 h0 nL hs zl (pc + 1) L (vI ((stT 0).getD i.toNat 0) :: S) M) : cG p l e R s m args below meth c cells slots Q D aC n0 ad0 h0 nL hs zl pc L (vI i :: vR 201 :: S) M := by
  intro ad H locs ls g hP hD hS hl
  have e1 : ad 201 = f0 := (g 201 (Or.inr (by decide))).trans ha
  have e2 : (vI i :: vR 201 :: S).map (cV ad) = .int (Int32.ofInt i) :: .ref f0 :: S.map (cV ad) := by rw [List.map_cons, List.map_cons]; show _ :: Value.ref (ad 201) :: _ = _; rw [e1]; rfl
  rw [e2]
  exact va_ti hC.1 hC.2.1 hC.2.2.2.2.2.2.2.1.2.2 hS (i_in h1 h2 (by decide)) (by rw [i_clamp h1 (by omega)]; rfl) d (k ad H locs ls g hP hD hS hl)
theorem c_sub {L' : List (Nat × RV)} (k : cG p l e R s m args below meth c cells slots Q D aC n0 ad0 h0 nL hs zl pc L' S M) (h : lsub L L') : cG p l e R s m args below meth c cells slots Q D aC n0 ad0 h0 nL hs zl pc L S M := by
  intro ad H locs ls g hP hD hS hl
  refine k ad H locs ls g hP hD hS ⟨hl.1, hl.2.1, fun q hq => ?_⟩
  obtain ⟨a, ha, rfl⟩ := List.mem_map.mp hq
  exact hl.2.2 _ (List.mem_map.mpr ⟨a, lsub_mem h a ha, rfl⟩)
/-! ===== a constructor's contract: from this world to that one ===== -/
def mP (D : va_G) (aC : Nat → ClassId) (n0 f0 : Nat) (ad : Nat → Nat) (hs : List Nat) (zl : List (Nat × Nat)) (M : Mem) (av : List Value) : Array Value → State → Prop := fun a U =>
  a = av.toArray ∧ va_P D vwCl (pw aC ad zl M hs) U.heap ∧ va_D (nA n0) (pw aC ad zl M hs) ∧ va_K D vwCl (tysA aC) U ∧ n0 ≤ U.heap.size ∧ Sc f0 n0 U U.heap
def mQ (D : va_G) (aC : Nat → ClassId) (n0 : Nat) (ad : Nat → Nat) (hk : List Nat) (rv : Option Value) (hs' : List Nat) (zl' : List (Nat × Nat)) (M' : Mem) : Array Value → State → Outcome → State → Prop := fun _ st oc t =>
  (oc = .returned rv ∧ ∃ ad' : Nat → Nat, (∀ h, h ∈ hk ∨ 99 ≤ h → ad' h = ad h) ∧ va_P D vwCl (pw aC ad' zl' M' hs') t.heap ∧ va_D (nA n0) (pw aC ad' zl' M' hs')) ∧ va_F (nA n0) st t
theorem mP_blind {ad : Nat → Nat} {av : List Value} : FrameBlind (mP D aC n0 f0 ad hs zl M av) := by
  intro a U g mk ⟨h1, h2, h3, h4, h5, h6⟩
  exact ⟨h1, h2, h3, va_K.moved (u := U) (U := U.calling g mk a) (Vm.Alike.refl U.vm) h4, h5, Sc.same (u := U) (U := U.calling g mk a) rfl rfl h6⟩
def Mk (l : Launch) (D : va_G) (aC : Nat → ClassId) (n0 f0 : Nat) (y : MethodName) (cc : ByteArray) (maxL : Nat) (ret : Option FieldType) (fr lo mc ms : Nat) (av : List RV) (rv : Option RV) (hs : List Nat) (zl : List (Nat × Nat)) (M : Mem) (hs' : List Nat) (zl' : List (Nat × Nat)) (M' : Mem) : Prop :=
  ∀ ad : Nat → Nat, ad 201 = f0 → Met l y (Cond.code y cc maxL ret :: lw_gd) { frames := fr, cells := mc, slots := ms, locals := lo } (mP D aC n0 f0 ad hs zl M (av.map (cV ad))) (mQ D aC n0 ad (201 :: hs) (rv.map (cV ad)) hs' zl' M') mc ms (nA n0)
theorem Mk.of {y : MethodName} {maxL : Nat} {av : List RV} {rv : Option RV} {hs' : List Nat} {zl' : List (Nat × Nat)} {M' : Mem} (hy : plainName y.cls = true) (hn : wid av ≤ maxL)
    (body : ∀ (ad0 : Nat → Nat) (p : Program) (e : Env) (R : Room) (s : State) (m : MethodId) (args : Array Value) (below : List Frame) (meth : Method) (c : Code), ad0 201 = f0 → cC p R s m args meth c D aC n0 f0 maxL cc y.cls fr lo mc ms ret → meth.name = y.name →
      cG p l e R s m args below meth c 0 0 (MQ below (mQ D aC n0 ad0 (201 :: hs) (rv.map (cV ad0)) hs' zl' M') args s mc ms (nA n0)) D aC n0 ad0 (201 :: hs) maxL hs zl 0 (lav 0 av) [] M) : Mk l D aC n0 f0 y cc maxL ret fr lo mc ms av rv hs zl M hs' zl' M' := by
  intro ad had
  refine Met.ofW (cc := cc) (maxL := maxL) (ret := ret) hy rfl ?_
  intro p e s m args below meth c s₁ B hml hv
  obtain ⟨rfl, hP, hD, hK, hn0, hSc⟩ := hv
  have hts := atoms_spec (ws := Cond.code y cc maxL ret :: lw_gd) B.pre
  have hC : cC p (headSpec (Cond.code y cc maxL ret :: lw_gd) { frames := fr, cells := mc, slots := ms, locals := lo }).room s m (av.map (cV ad)).toArray meth c D aC n0 f0 maxL cc y.cls fr lo mc ms ret :=
    ⟨B.exec, B.bytes, hml, findClass_of_methodNamed B.named, fun w hw => hts w (List.mem_cons_of_mem _ hw), hK, hn0, hSc, B.returns, B.notSynchronized, Nat.le_refl _, Nat.le_refl _, Nat.le_refl _, Nat.le_refl _⟩
  have hl := lv_entry (av.map (cV ad)) (n := maxL) (by rw [wid_sl]; exact hn)
  rw [lg_entry_eq]
  rw [lav_eq] at hl
  exact body ad p e _ s m _ below meth c had hC (name_of_methodNamed B.named B.method).1 ad s.heap [] _ (fun _ _ => rfl) hP hD va_S.rf hl
theorem c_vret {hs' : List Nat} {zl' : List (Nat × Nat)} {M' : Mem} (hC : cC p R s m args meth c D aC n0 f0 nL cc own fr lo mc ms none) (d : decode cc pc = .ok (.return_, 1)) (ew : ∀ ad, pw aC ad zl M hs = pw aC ad zl' M' hs') : cG p l e R s m args below meth c cells slots (MQ below (mQ D aC n0 ad0 h0 none hs' zl' M') args s cells slots (nA n0)) D aC n0 ad0 h0 nL hs zl pc L [] M := by
  intro ad H locs ls g hP hD hS hl
  rw [ew ad] at hP hD
  obtain ⟨hx, hb, -, -, -, -, -, -, hr, hlk, -⟩ := hC
  exact W.vret hx hb hr (fun t ht hW => ⟨⟨rfl, ad, g, by rw [ht]; exact hP, hD⟩, hS.F ht⟩) hS.2.2 d hlk
theorem c_iret {z : Int} (hC : cC p R s m args meth c D aC n0 f0 nL cc own fr lo mc ms (some .int)) (d : decode cc pc = .ok (.ireturn, 1)) : cG p l e R s m args below meth c cells slots (MQ below (mQ D aC n0 ad0 h0 (some (.int (Int32.ofInt z))) hs zl M) args s cells slots (nA n0)) D aC n0 ad0 h0 nL hs zl pc L [vI z] M := by
  intro ad H locs ls g hP hD hS hl
  obtain ⟨hx, hb, -, -, -, -, -, -, hr, hlk, -⟩ := hC
  exact W.iret hx hb hr (fun t ht hW => ⟨⟨rfl, ad, g, by rw [ht]; exact hP, hD⟩, hS.F ht⟩) hS.2.2 d hlk
/-- behind a call -/
theorem c_go {ad : Nat → Nat} {H : Heap} {locs : List Loc} {ls : Array Slot} {st0 rest : List Value} {a : Array Value} {hk : List Nat} {rv : Option Value} {mc' ms' : Nat} {hs' : List Nat} {zl' : List (Nat × Nat)} {M' : Mem} (hr : va_Run p l e R s m args below meth c H locs cells slots mc' ms' (F0 m pc ls st0) rest (mQ D aC n0 ad hk rv hs' zl' M' a) (nA n0)) (hS : va_S (nA n0) s.heap H locs)
    (kk : ∀ (ad' : Nat → Nat) (H1 : Heap) (locs1 : List Loc), (∀ h, h ∈ hk ∨ 99 ≤ h → ad' h = ad h) → va_P D vwCl (pw aC ad' zl' M' hs') H1 → va_D (nA n0) (pw aC ad' zl' M' hs') → va_S (nA n0) s.heap H1 locs1 → W p l e R s m args below meth c H1 locs1 (cells + mc') (slots + ms') Q (F0 m (pc + 3) ls (rv.toList ++ rest))) : W p l e R s m args below meth c H locs cells slots Q (F0 m pc ls st0) := by
  intro T hT X
  obtain ⟨v, st₀, t, T', L, h0, X', hL, e1, e2, ⟨⟨hv, ad', ha, hP, hD⟩, hz, hk⟩, st⟩ := hr T hT X
  have hv := Outcome.returned.inj hv
  subst hv
  rw [h0] at hz hk
  obtain ⟨t2, a1, b1⟩ := kk ad' T'.heap (locs ++ L) ha (by rw [e1]; exact hP) hD
    ⟨Nat.le_trans hS.1 (by rw [e1]; exact hz), fun q h1 h2 => by rw [e1, hk q (Nat.lt_of_lt_of_le h1 hS.1) h2]; exact hS.2.1 q h1 h2, fun q hq => by
      rcases List.mem_append.mp hq with h | h
      · exact hS.2.2 q h
      · exact hL q h⟩ T' rfl X'
  exact ⟨t2, st t2 a1, b1⟩
def rin (hs : List Nat) : RV → Bool
  | .inr (.inr x) => Nat.ble 99 x || hs.any fun h => Nat.beq x h
  | _ => true
theorem rin_mem {x : Nat} (e : (Nat.ble 99 x || hs.any fun h => Nat.beq x h) = true) : x ∈ hs ∨ 99 ≤ x := by
  rw [Bool.or_eq_true] at e
  rcases e with e | e
  · exact Or.inr (Nat.le_of_ble_eq_true e)
  refine Or.inl ?_
  obtain ⟨q, hq, hb⟩ := List.any_eq_true.mp e
  rw [Nat.eq_of_beq_eq_true hb]
  exact hq
theorem cV_rin {ad ad' : Nat → Nat} {v : RV} (ha : ∀ h, h ∈ hs ∨ 99 ≤ h → ad' h = ad h) (e : rin hs v = true) : cV ad' v = cV ad v := by
  rcases v with z | z | z
  · rfl
  · rfl
  · show Value.ref (ad' z) = Value.ref (ad z)
    rw [ha z (rin_mem e)]
theorem mem_rin {ad ad' : Nat → Nat} (ha : ∀ h, h ∈ hs ∨ 99 ≤ h → ad' h = ad h) (hL : (L.all fun q => rin hs q.2) = true) : L.map (cL ad') = L.map (cL ad) := by
  apply List.map_congr_left
  intro x hx
  show (x.1, _) = (x.1, _)
  rw [cV_rin ha (List.all_eq_true.mp hL x hx)]
theorem stk_rin {ad ad' : Nat → Nat} (ha : ∀ h, h ∈ hs ∨ 99 ≤ h → ad' h = ad h) (hL : (S.all fun v => rin hs v) = true) : S.map (cV ad') = S.map (cV ad) := by
  apply List.map_congr_left
  intro x hx
  rw [cV_rin ha (List.all_eq_true.mp hL x hx)]
/-- a static method of one int that changes nothing -/
theorem c_callS (hC : cC p R s m args meth c D aC n0 f0 nL cc own fr lo mc ms ret) {y : MethodName} {cc' : ByteArray} {maxL' fr' lo' idx : Nat} {x z : Int} (hM : Mk l D aC n0 f0 y cc' maxL' (some .int) fr' lo' 0 0 [vI x] (some (vI z)) hs zl M hs zl M) (kc : Cond.code y cc' maxL' (some .int) ∈ lw_gd) (km : Cond.methodLink own idx y ∈ lw_gd) (kT : Cond.static y ∈ lw_gd) (kN : Cond.initialized y.cls ∈ lw_gd)
    (hd : y.cls ≠ "java/lang/invoke/MethodHandle" ∧ y.cls ≠ "java/lang/invoke/VarHandle" ∧ (parseMethodDescriptor y.desc).map (fun d => d.parameters.length) = some 1) (hroom : fr' + 1 ≤ fr ∧ 8 + (maxL' + 11) + lo' ≤ lo) (hw : wid S ≤ 8) (hcs : cells ≤ mc ∧ slots ≤ ms) (hf0 : 201 ∈ h0) (ha : ad0 201 = f0) (hsub : ∀ h ∈ h0, h ∈ 201 :: hs) (hL : (L.all fun q => rin (201 :: hs) q.2) = true) (hSS : (S.all fun v => rin (201 :: hs) v) = true) (d : decode cc pc = .ok (.invokestatic idx, 3))
    (k : cG p l e R s m args below meth c cells slots Q D aC n0 ad0 h0 nL hs zl (pc + 3) L (vI z :: S) M) : cG p l e R s m args below meth c cells slots Q D aC n0 ad0 h0 nL hs zl pc L (vI x :: S) M := by
  intro ad H locs ls g hP hD hS hl
  have hrm := hC.2.2.2.2.2.2.2.2.2.2
  have e1 : ad 201 = f0 := (g 201 (Or.inr (by decide))).trans ha
  refine c_go (rest := S.map (cV ad)) (va_runS (As := [.int (Int32.ofInt x)]) (n := 1) (Ts := lw_gd) (own := own) (nL := nL) ⟨hC.1, hC.2.1, hC.2.2.1, hC.2.2.2.1, hC.2.2.2.2.1⟩ (hM ad e1)
    ⟨callB_of 1 hC.2.2.2.2.1 (gd_in_code kc) rfl rfl rfl (hC.2.2.2.2.1 _ kN) (hC.2.2.2.2.1 _ km) hd ⟨Nat.le_trans hroom.1 hrm.1, Nat.le_trans hroom.2 hrm.2.1⟩, hC.2.2.2.2.1 _ kT⟩
    ⟨mP_blind, fun U hU hW => ⟨rfl, by rw [hU]; exact hP, hD, va_K.moved hW.alike hC.2.2.2.2.2.1, by rw [hU]; exact Nat.le_trans hC.2.2.2.2.2.2.1 hS.1, Sc.move hC.2.2.2.2.2.2.2.1 hS hU hW⟩⟩ rfl rfl hl.1 rfl (lv_room (by rw [cat_sum]; exact hw)) d ⟨Nat.le_trans hcs.1 hrm.2.2.1, Nat.le_trans hcs.2 hrm.2.2.2⟩) hS (fun ad' H1 locs1 ha' hP1 hD1 hS1 => ?_)
  have := k ad' H1 locs1 ls (fun h hh => (ha' h (hh.imp (hsub h) id)).trans (g h hh)) hP1 hD1 hS1 (by rw [mem_rin ha' hL]; exact hl)
  rw [List.map_cons, stk_rin ha' hSS] at this
  exact this
/-- new, dup, and the constructor's call -/
theorem c_make (hC : cC p R s m args meth c D aC n0 f0 nL cc own fr lo mc ms ret) {y : MethodName} {cc' : ByteArray} {maxL' fr' lo' mc' ms' i1 i2 gg ci cells' slots' : Nat} {hs' : List Nat} {zl' : List (Nat × Nat)} {M' : Mem} (hM : Mk l D aC n0 f0 y cc' maxL' none fr' lo' mc' ms' [vR gg] none (hs ++ [gg]) zl M hs' zl' M') (kc : Cond.code y cc' maxL' none ∈ lw_gd) (km : Cond.methodLink own i2 y ∈ lw_gd ∨ Cond.methodLinkNest own i2 y "SoupSand" ∈ lw_nest) (kI : Cond.instanceMethod y ∈ lw_gd) (kN : Cond.initialized y.cls ∈ lw_gd) (kcl : Cond.classLink own i1 (cnm ci) ∈ lw_gd) (kin : Cond.instantiable (cnm ci) (nfd ci) ∈ lw_gd) (eN : y.cls = cnm ci) (eI : y.name = "<init>")
    (hd : y.cls ≠ "java/lang/invoke/MethodHandle" ∧ y.cls ≠ "java/lang/invoke/VarHandle" ∧ (parseMethodDescriptor y.desc).map (fun d => d.parameters.length) = some 0) (hroom : fr' + 1 ≤ fr ∧ 8 + (maxL' + 11) + lo' ≤ lo) (hw : wid (vR gg :: S) ≤ 8) (hs0 : shp gg = .inl ci) (hM0 : ∀ j : Nat, M gg j = 0) (hfr : frs zl hs h0 L S gg = true) (ec : cells + 1 + mc' = cells') (es : slots + nfd ci + ms' = slots') (hcs : cells' ≤ mc ∧ slots' ≤ ms) (hf0 : 201 ∈ h0) (ha : ad0 201 = f0) (hsub : ∀ h ∈ h0, h ∈ 201 :: (hs ++ [gg])) (hL : (L.all fun q => rin (201 :: (hs ++ [gg])) q.2) = true) (hSS : (S.all fun v => rin (201 :: (hs ++ [gg])) v) = true)
    (d1 : decode cc pc = .ok (.new i1, 3)) (d2 : decode cc (pc + 3) = .ok (.dup, 1)) (d3 : decode cc (pc + 4) = .ok (.invokespecial i2, 3)) (h201 : gg ≠ 201)
    (k : cG p l e R s m args below meth c cells' slots' Q D aC n0 ad0 h0 nL hs' zl' (pc + 7) L (vR gg :: S) M') : cG p l e R s m args below meth c cells slots Q D aC n0 ad0 h0 nL hs zl pc L S M := by
  intro ad H locs ls g hP hD hS hl
  subst ec; subst es
  have hrm := hC.2.2.2.2.2.2.2.2.2.2
  obtain ⟨c1, c2⟩ := shp_cls gg ci hs0
  have e1 : ad 201 = f0 := (g 201 (Or.inr (by decide))).trans ha
  unfold frs at hfr
  simp only [Bool.and_eq_true] at hfr
  obtain ⟨f1, f2, f3, f4, f5⟩ := hfr
  have hz0 : ∀ k, zin zl gg k = false := by
    intro k
    cases hb : zin zl gg k with
    | false => rfl
    | true =>
      have := List.all_eq_true.mp f3 _ (zin_mem hb)
      rw [Bool.and_eq_true] at this
      exact absurd rfl (bne_of this.2)
  have b1 : cells + 1 ≤ R.cells := by have := hcs.1; have := hrm.2.2.1; omega
  have b2 : slots + nfd ci ≤ R.slots := by have := hcs.2; have := hrm.2.2.2; omega
  refine va_new (D := D) (ci := ci) (fs := fLP ad zl M gg ci) (C := cnm ci) (T := ctb ci) (N := nfd ci) hC.1 hC.2.1 hC.2.2.2.2.1 (cls_lay ci c1) (cty ci) (cls_ty ci c1) hC.2.2.2.1 (hC.2.2.2.2.1 _ kcl) (hC.2.2.2.2.1 _ kin) (by rw [← eN]; exact hC.2.2.2.2.1 _ kN) hC.2.2.2.2.2.1 hP hD hS (fun q hq => Nat.le_trans hC.2.2.2.2.2.2.1 hq) (vw_at ci c1) (fun j hj => ?_) b1 b2 d1 (fun q H1 hP1 hD1 hS1 => ?_)
  · show _ = (fLP ad zl M gg ci).getD j .null
    rw [List.getD_eq_getElem?_getD, fLP_at hj]
    show _ = fVP ad zl M gg j (fda ci j)
    unfold fVP
    rw [hz0 j, hM0 j]
    by_cases hz : (fda ci j).1 = 0
    · rw [if_pos hz]
      obtain ⟨n1, n2⟩ := cls_ref ci c1 j hj hz
      rw [(isRT_ok n2).1]
      rfl
    · rw [if_neg hz]
      exact cls_nr ci c1 j hj hz
  · have ew : pw aC ad zl M hs ++ [(q, .inr (ci, fLP ad zl M gg ci))] = pw aC (adu ad gg q) zl M (hs ++ [gg]) := by
      show _ = (hs ++ [gg]).map _
      rw [List.map_append]
      show _ = pw aC (adu ad gg q) zl M hs ++ [(adu ad gg q gg, entP aC (adu ad gg q) zl M gg)]
      rw [pw_adu f1 f3, adu_eq, entP_adu f3, entP_obj hs0]
    rw [ew] at hP1 hD1
    have ha2 : adu ad gg q 201 = f0 := by rw [adu_ne (fun q => h201 q.symm)]; exact e1
    refine lv_dup hC.1 hC.2.1 d2 rfl ?_
    have fin : ∀ (ad' : Nat → Nat) (H2 : Heap) (locs2 : List Loc), (∀ h, h ∈ 201 :: (hs ++ [gg]) ∨ 99 ≤ h → ad' h = adu ad gg q h) → va_P D vwCl (pw aC ad' zl' M' hs') H2 → va_D (nA n0) (pw aC ad' zl' M' hs') → va_S (nA n0) s.heap H2 locs2 → W p l e R s m args below meth c H2 locs2 (cells + 1 + mc') (slots + nfd ci + ms') Q (F0 m (pc + 3 + 1 + 3) ls ((none : Option Value).toList ++ (.ref q :: S.map (cV ad)))) := by
      intro ad' H2 locs2 ha' hP2 hD2 hS2
      have := k ad' H2 locs2 ls (fun h hh => by
        have ne : h ≠ gg := by
          rcases hh with hh | hh
          · exact bne_of (List.all_eq_true.mp f2 h hh)
          · have : gg < 99 := c2
            omega
        rw [ha' h (hh.imp (hsub h) id), adu_ne ne]
        exact g h hh) hP2 hD2 hS2 (by rw [mem_rin ha' hL, mem_adu f4]; exact hl)
      rw [List.map_cons, stk_rin ha' hSS, stk_adu f5] at this
      have e3 : cV ad' (vR gg) = .ref q := by
        show Value.ref (ad' gg) = _
        rw [ha' gg (Or.inl (by simp)), adu_eq]
      rw [e3] at this
      exact this
    have pre : PreS s H1 (mP D aC n0 f0 (adu ad gg q) (hs ++ [gg]) zl M ([vR gg].map (cV (adu ad gg q)))) (.ref q :: []) :=
      ⟨mP_blind, fun U hU hW => ⟨by show _ = [Value.ref (adu ad gg q gg)].toArray; rw [adu_eq], by rw [hU]; exact hP1, hD1, va_K.moved hW.alike hC.2.2.2.2.2.1, by rw [hU]; exact Nat.le_trans hC.2.2.2.2.2.2.1 hS1.1, Sc.move hC.2.2.2.2.2.2.2.1 hS1 hU hW⟩⟩
    have hwd : ((Value.ref q :: S.map (cV ad)).map fun v => v.category).sum ≤ 8 := by
      have h9 : ((Value.ref q :: S.map (cV ad)).map fun v => v.category).sum = 1 + wid S := by
        rw [List.map_cons, List.sum_cons, cat_sum]; rfl
      rw [h9]
      have : wid (vR gg :: S) = 1 + wid S := rfl
      omega
    rcases km with km | km
    · exact c_go (va_runI (As := []) (n := 0) (b := q) (rest := .ref q :: S.map (cV ad)) (Ts := lw_gd) (own := own) (nL := nL) ⟨hC.1, hC.2.1, hC.2.2.1, hC.2.2.2.1, hC.2.2.2.2.1⟩ (hM (adu ad gg q) ha2)
        ⟨callB_of 0 hC.2.2.2.2.1 (gd_in_code kc) rfl rfl rfl (hC.2.2.2.2.1 _ kN) (hC.2.2.2.2.1 _ km) hd ⟨Nat.le_trans hroom.1 hrm.1, Nat.le_trans hroom.2 hrm.2.1⟩, eI, hC.2.2.2.2.1 _ kI⟩ pre rfl rfl hl.1 rfl (lv_room hwd) d3 ⟨Nat.le_trans hcs.1 hrm.2.2.1, Nat.le_trans hcs.2 hrm.2.2.2⟩) hS1 fin
    · exact c_go (va_runIN (host := "SoupSand") (As := []) (n := 0) (b := q) (rest := .ref q :: S.map (cV ad)) (Ts := lw_gd) (own := own) (nL := nL) ⟨hC.1, hC.2.1, hC.2.2.1, hC.2.2.2.1, hC.2.2.2.2.1⟩ (hM (adu ad gg q) ha2)
        ⟨va_cnB 0 hC.2.2.2.2.1 (gd_in_code kc) rfl rfl rfl (hC.2.2.2.2.2.2.2.1.1 _ km) (hC.2.2.2.2.1 _ kN) hd ⟨Nat.le_trans hroom.1 hrm.1, Nat.le_trans hroom.2 hrm.2.1⟩, eI, hC.2.2.2.2.1 _ kI⟩ pre rfl rfl hl.1 rfl (lv_room hwd) d3 ⟨Nat.le_trans hcs.1 hrm.2.2.1, Nat.le_trans hcs.2 hrm.2.2.2⟩) hS1 fin
end CR
