section RJ
variable {p : Program} {l : Launch} {e : Env} {R : Room} {s : State} {m : MethodId} {args : Array Value} {below : List Frame} {meth : Method} {c : Code} {cells slots : Nat} {Q : State → Prop}
variable {D : va_G} {aC : Nat → ClassId} {ad : Nat → Nat} {nL : Nat} {cc : ByteArray} {own : String} {fr lo : Nat} {ret : Option FieldType}
variable {pc : Nat} {L : List (Nat × RV)} {S : List RV} {M : Mem}
theorem r_subk {L' : List (Nat × RV)} (k : rG p l e R s m args below meth c cells slots Q D aC ad nL pc L' S M) (h : lsub L L') : rG p l e R s m args below meth c cells slots Q D aC ad nL pc L S M := r_sub h k
theorem r_max (hC : rC p R s m args meth c cells slots D aC ad nL cc own fr lo ret) {idx : Nat} {a b : Int} (km : Cond.methodLink own idx Lib.Math.max.name ∈ lw_gd) (hf : 1 ≤ fr) (hw : wid S + 13 ≤ lo) (d : decode cc pc = .ok (.invokestatic idx, 3)) (a1 : -2147483648 ≤ a) (a2 : a ≤ 2147483647) (b1 : -2147483648 ≤ b) (b2 : b ≤ 2147483647)
    (k : rG p l e R s m args below meth c cells slots Q D aC ad nL (pc + 3) L (vI (max a b) :: S) M) : rG p l e R s m args below meth c cells slots Q D aC ad nL pc L (vI b :: vI a :: S) M := by
  intro H locs ls hP hO hS hl
  have hrm := hC.2.2.2.2.2.2.2.2.2.2
  refine va_mmax hC.1 hC.2.1 (hC.2.2.1.trans hl.1.symm) hC.2.2.2.1 (hC.2.2.2.2.1 _ km) (hC.2.2.2.2.1 _ kJT_max) (hC.2.2.2.2.1 _ kJN_Math) (hC.2.2.2.2.1 _ kJC_max) (Nat.le_trans hf hrm.1) (by rw [cat_sum]; exact Nat.le_trans hw hrm.2.1) hrm.2.2.1 hrm.2.2.2 d ?_
  have e0 : (if Int32.ofInt a < Int32.ofInt b then Int32.ofInt b else Int32.ofInt a) = Int32.ofInt (max a b) := by
    have := i_lt a1 a2 b1 b2
    by_cases h : a < b
    · rw [if_pos (this.mpr h)]; congr 1; omega
    · rw [if_neg (fun q => h (this.mp q))]; congr 1; omega
  rw [e0]
  exact k H locs ls hP hO hS hl
theorem r_min (hC : rC p R s m args meth c cells slots D aC ad nL cc own fr lo ret) {idx : Nat} {a b : Int} (km : Cond.methodLink own idx Lib.Math.min.name ∈ lw_gd) (hf : 1 ≤ fr) (hw : wid S + 13 ≤ lo) (d : decode cc pc = .ok (.invokestatic idx, 3)) (a1 : -2147483648 ≤ a) (a2 : a ≤ 2147483647) (b1 : -2147483648 ≤ b) (b2 : b ≤ 2147483647)
    (k : rG p l e R s m args below meth c cells slots Q D aC ad nL (pc + 3) L (vI (min a b) :: S) M) : rG p l e R s m args below meth c cells slots Q D aC ad nL pc L (vI b :: vI a :: S) M := by
  intro H locs ls hP hO hS hl
  have hrm := hC.2.2.2.2.2.2.2.2.2.2
  refine va_mmin hC.1 hC.2.1 (hC.2.2.1.trans hl.1.symm) hC.2.2.2.1 (hC.2.2.2.2.1 _ km) (hC.2.2.2.2.1 _ kJT_min) (hC.2.2.2.2.1 _ kJN_Math) (hC.2.2.2.2.1 _ kJC_min) (Nat.le_trans hf hrm.1) (by rw [cat_sum]; exact Nat.le_trans hw hrm.2.1) hrm.2.2.1 hrm.2.2.2 d ?_
  have e0 : (if Int32.ofInt b < Int32.ofInt a then Int32.ofInt b else Int32.ofInt a) = Int32.ofInt (min a b) := by
    have := i_lt b1 b2 a1 a2
    by_cases h : b < a
    · rw [if_pos (this.mpr h)]; congr 1; omega
    · rw [if_neg (fun q => h (this.mp q))]; congr 1; omega
  rw [e0]
  exact k H locs ls hP hO hS hl
theorem r_abs (hC : rC p R s m args meth c cells slots D aC ad nL cc own fr lo ret) {idx : Nat} {a : Int} (km : Cond.methodLink own idx Lib.Math.abs.name ∈ lw_gd) (hf : 1 ≤ fr) (hw : wid S + 13 ≤ lo) (d : decode cc pc = .ok (.invokestatic idx, 3)) (a1 : -2147483648 ≤ a) (a2 : a ≤ 2147483647)
    (k : rG p l e R s m args below meth c cells slots Q D aC ad nL (pc + 3) L (vI (if 0 ≤ a then a else -a) :: S) M) : rG p l e R s m args below meth c cells slots Q D aC ad nL pc L (vI a :: S) M := by
  intro H locs ls hP hO hS hl
  have hrm := hC.2.2.2.2.2.2.2.2.2.2
  refine va_mabs hC.1 hC.2.1 (hC.2.2.1.trans hl.1.symm) hC.2.2.2.1 (hC.2.2.2.2.1 _ km) (hC.2.2.2.2.1 _ kJT_abs) (hC.2.2.2.2.1 _ kJN_Math) (hC.2.2.2.2.1 _ kJC_abs) (Nat.le_trans hf hrm.1) (by rw [cat_sum]; exact Nat.le_trans hw hrm.2.1) hrm.2.2.1 hrm.2.2.2 d ?_
  have e0 : (if 0 ≤ Int32.ofInt a then Int32.ofInt a else 0 - Int32.ofInt a) = Int32.ofInt (if 0 ≤ a then a else -a) := by
    have : (0 : Int32) ≤ Int32.ofInt a ↔ 0 ≤ a := i_le (a := 0) (by decide) (by decide) a1 a2
    by_cases h : 0 ≤ a
    · rw [if_pos (this.mpr h), if_pos h]
    · rw [if_neg (fun q => h (this.mp q)), if_neg h]
      have e1 : (0 : Int32) = Int32.ofInt 0 := rfl
      rw [e1, ← Int32.ofInt_sub]
      congr 1; omega
  rw [e0]
  exact k H locs ls hP hO hS hl
/-- System.arraycopy between two int arrays -/
def mcpy (M : Mem) (hs : Nat) (sp : Int) (hd : Nat) (dp n : Int) : Mem := fun h' => if h' = hd then (fun j => if dp ≤ j ∧ j < dp + n then M hs (sp + (j - dp)) else M hd j) else M h'
theorem wld_upd {aC : Nat → ClassId} {ad : Nat → Nat} {M M' : Mem} {h : Nat} (hh : h < nHd) (ho : ∀ h', h' ≠ h → M' h' = M h') {x : va_E} (hx : x = ent aC ad M' h) : (wld aC ad M).set h (ad h, x) = wld aC ad M' := by
  subst hx
  apply List.ext_getElem?
  intro k
  by_cases hk : k < nHd
  · rw [wld_at hk]
    by_cases e : h = k
    · subst e
      rw [List.getElem?_set_self (by simpa [wld] using hh)]
    · rw [List.getElem?_set_ne e, wld_at hk]
      unfold ent fLs fVal
      rw [ho k (fun q => e q.symm)]
  · rw [List.getElem?_eq_none (by simpa [wld] using Nat.le_of_not_lt hk), List.getElem?_eq_none (by simpa [wld] using Nat.le_of_not_lt hk)]
theorem r_copy (hC : rC p R s m args meth c cells slots D aC ad nL cc own fr lo ret) {idx : Nat} {hs hd n0 n1 : Nat} {lo0 hi0 lo1 hi1 sp dp n : Int} (e0 : shp hs = .inr (0, n0, lo0, hi0)) (e1 : shp hd = .inr (0, n1, lo1, hi1)) (hh0 : hs < nHd) (hh1 : hd < nHd) (hr : lo1 ≤ lo0 ∧ hi0 ≤ hi1 ∧ n0 ≤ 100000 ∧ n1 ≤ 100000) (km : Cond.methodLink own idx arraycopyName ∈ lw_gd) (hf : 1 ≤ fr) (hw : wid S + (nativeFrameWords "java/lang/System" "arraycopy" 5 + 11) ≤ lo) (d : decode cc pc = .ok (.invokestatic idx, 3))
    (h1 : 0 ≤ sp) (h2 : 0 ≤ dp) (h3 : 0 ≤ n) (h4 : sp + n ≤ n0) (h5 : dp + n ≤ n1)
    (k : rG p l e R s m args below meth c cells slots Q D aC ad nL (pc + 3) L S (mcpy M hs sp hd dp n)) : rG p l e R s m args below meth c cells slots Q D aC ad nL pc L (vI n :: vI dp :: vR hd :: vI sp :: vR hs :: S) M := by
  intro H locs ls hP hO hS hl
  have hrm := hC.2.2.2.2.2.2.2.2.2.2
  have c1 : (Int32.ofInt sp).toNatClampNeg = sp.toNat := i_clamp h1 (by omega)
  have c2 : (Int32.ofInt dp).toNatClampNeg = dp.toNat := i_clamp h2 (by omega)
  have c3 : (Int32.ofInt n).toNatClampNeg = n.toNat := i_clamp h3 (by omega)
  have z : ∀ {q : Int}, 0 ≤ q → q ≤ 2147483647 → ¬ Int32.ofInt q < 0 := fun {q} q1 q2 hq => by
    have := (i_lt (b := 0) (by omega) q2 (by decide) (by decide)).mp hq
    omega
  refine va_copyi hC.1 hC.2.1 (hC.2.2.1.trans hl.1.symm) hC.2.2.2.1 (hC.2.2.2.2.1 _ km) (hC.2.2.2.2.1 _ kJV_copy) (hC.2.2.2.2.1 _ kJT_copy) (hC.2.2.2.2.1 _ kJN_System) hC.2.2.2.2.2.1 hP (wld_D hC.2.2.2.2.2.2.1) hS hs hd 0 0 (ty := .int) ((wld_at hh0).trans (by rw [ent_arr 0 (by decide) e0])) ((wld_at hh1).trans (by rw [ent_arr 0 (by decide) e1])) rfl rfl rfl (z h1 (by omega)) (z h2 (by omega)) (z h3 (by omega)) (by rw [c1, c3]; omega) (by rw [c2, c3]; omega) (fun i _ => rfl) (Nat.le_trans hf hrm.1) (by rw [cat_sum]; exact Nat.le_trans hw hrm.2.1) d (fun H1 locs1 hP1 hD1 hS1 => ?_)
  rw [wld_upd (M' := mcpy M hs sp hd dp n) hh1 (fun h' hne => by unfold mcpy; rw [if_neg hne]) (by
    rw [ent_arr 0 (by decide) e1]
    congr 4
    funext j
    rw [c1, c2, c3]
    unfold va_cpy mcpy
    rw [if_pos rfl]
    by_cases hj : dp ≤ (j : Int) ∧ (j : Int) < dp + n
    · have e2 : ((sp.toNat + (j - dp.toNat) : Nat) : Int) = sp + ((j : Int) - dp) := by omega
      rw [if_pos hj, if_pos (by omega), ← e2]
    · rw [if_neg hj, if_neg (by omega)])] at hP1
  refine k H1 locs1 ls hP1 (fun h' hh' => ?_) hS1 hl
  by_cases q : h' = hd
  · subst q
    unfold okAt
    rw [e1]
    intro j
    show _ ∧ _
    unfold mcpy
    rw [if_pos rfl]
    have b0 := hO.arr hh0 e0 (sp + (j - dp))
    have b1 := hO.arr hh1 e1 j
    split
    · omega
    · exact b1
  · have := hO h' hh'
    unfold okAt at this ⊢
    have e : mcpy M hs sp hd dp n h' = M h' := by unfold mcpy; rw [if_neg q]
    rw [e]
    exact this
/-- the class's static arrays -/
theorem r_gets (hC : rC p R s m args meth c cells slots D aC ad nL cc own fr lo ret) {idx : Nat} (kk : Nat) (hk : kk < nSta) (kz : Cond.fieldLink own idx "SoupSand$Rules" (stN kk) "[I" ∈ lw_gd) (d : decode cc pc = .ok (.getstatic idx, 3)) (k : rG p l e R s m args below meth c cells slots Q D aC ad nL (pc + 3) L (vR (201 + kk) :: S) M) : rG p l e R s m args below meth c cells slots Q D aC ad nL pc L S M := by
  intro H locs ls hP hO hS hl
  exact va_gets hC.1 hC.2.1 (hC.2.2.2.2.2.2.2.1.2.1 kk hk).1 hS hC.2.2.2.1 (hC.2.2.2.2.1 _ kz) (fun _ h9 => h9) d (k H locs ls hP hO hS hl)
theorem r_stald (hC : rC p R s m args meth c cells slots D aC ad nL cc own fr lo ret) (kk : Nat) (hk : kk < nSta) {i : Int} (h1 : 0 ≤ i) (h2 : i < 10) (d : decode cc pc = .ok (.iaload, 1)) (k : rG p l e R s m args below meth c cells slots Q D aC ad nL (pc + 1) L (vI ((stT kk).getD i.toNat 0) :: S) M) : rG p l e R s m args below meth c cells slots Q D aC ad nL pc L (vI i :: vR (201 + kk) :: S) M := by
  intro H locs ls hP hO hS hl
  exact va_ti hC.1 hC.2.1 (hC.2.2.2.2.2.2.2.1.2.1 kk hk).2 hS (i_in h1 h2 (by decide)) (by rw [i_clamp h1 (by omega)]; rfl) d (k H locs ls hP hO hS hl)
/-- a String constant, by its place -/
theorem r_ldcS (hC : rC p R s m args meth c cells slots D aC ad nL cc "SoupSand$Reader" fr lo ret) {idx : Nat} (kk : Nat) (hk : kk < nStr) (d : decode cc pc = .ok (.ldc idx, 2)) (k : rG p l e R s m args below meth c cells slots Q D aC ad nL (pc + 2) L (vR (211 + kk) :: S) M) (hi : idx = strIx kk := by rfl) : rG p l e R s m args below meth c cells slots Q D aC ad nL pc L S M := by
  intro H locs ls hP hO hS hl
  subst hi
  exact va_ldcS hC.1 hC.2.1 hC.2.2.2.1 (hC.2.2.2.2.2.2.2.1.2.2.2.1 kk hk) d (k H locs ls hP hO hS hl)
/-- Integer.bitCount, by its own steps -/
def sw1 (x : Int) : Int := x - bAnd (bUshr x 1) 1431655765
def sw2 (x : Int) : Int := bAnd x 858993459 + bAnd (bUshr x 2) 858993459
def sw3 (x : Int) : Int := bAnd (x + bUshr x 4) 252645135
def sw4 (x : Int) : Int := x + bUshr x 8
def sw5 (x : Int) : Int := x + bUshr x 16
def w_bitCount (x : Int) (Q : Int → Prop) : Prop := Q (bAnd (sw5 (sw4 (sw3 (sw2 (sw1 x))))) 63)
def w_sempty (h : Nat) (Q : Int → Prop) : Prop := ∃ i : Nat, i < nStr ∧ h = 211 + i ∧ Q (if strLen.getD i 0 = 0 then 1 else 0)
def w_slength (h : Nat) (Q : Int → Prop) : Prop := ∃ i : Nat, i < nStr ∧ h = 211 + i ∧ Q (strLen.getD i 0 : Nat)
def w_scharAt (h : Nat) (j : Int) (Q : Int → Prop) : Prop := ∃ i : Nat, i < nStr ∧ h = 211 + i ∧ 0 ≤ j ∧ j < (strLen.getD i 0 : Nat) ∧ Q ((strByt.getD i []).getD j.toNat 0).toInt
end RJ
