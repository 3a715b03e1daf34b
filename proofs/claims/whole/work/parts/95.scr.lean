/-! ===== the law's script, its comparisons ===== -/
/-- the script: n ints at the cell of handle 250, by their numbers -/
def scr (ad : Nat → Nat) (n : Nat) (sx : Int → Int) (s : State) : Prop := ∃ xs : Nat → Int32, va_X (ad 250) n xs s s.heap ∧ ad 250 < s.heap.size ∧ ¬ Adr ad (ad 250) ∧ n ≤ 3072 ∧ ∀ j : Nat, j < n → sx j = (xs j).toInt
section RSC
variable {p : Program} {l : Launch} {e : Env} {R : Room} {s : State} {m : MethodId} {args : Array Value} {below : List Frame} {meth : Method} {c : Code} {cells slots : Nat} {Q : State → Prop}
variable {D : va_G} {aC : Nat → ClassId} {ad : Nat → Nat} {nL : Nat} {cc : ByteArray} {own : String} {fr lo : Nat} {ret : Option FieldType}
variable {pc : Nat} {L : List (Nat × RV)} {S : List RV} {M : Mem} {n : Nat} {sx : Int → Int}
theorem r_slen (hC : rC p R s m args meth c cells slots D aC ad nL cc own fr lo ret) (hX : scr ad n sx s) (d : decode cc pc = .ok (.arraylength, 1)) (k : rG p l e R s m args below meth c cells slots Q D aC ad nL (pc + 1) L (vI n :: S) M) : rG p l e R s m args below meth c cells slots Q D aC ad nL pc L (vR 250 :: S) M := by
  intro H locs ls hP hO hS hl
  obtain ⟨xs, h1, h2, h3, h4, h5⟩ := hX
  refine va_slen hC.1 hC.2.1 h1 h2 h3 hS d ?_
  have h := k H locs ls hP hO hS hl
  exact h
theorem r_sld (hC : rC p R s m args meth c cells slots D aC ad nL cc own fr lo ret) (hX : scr ad n sx s) {i : Int} (h1 : 0 ≤ i) (h2 : i < n) (d : decode cc pc = .ok (.iaload, 1)) (k : rG p l e R s m args below meth c cells slots Q D aC ad nL (pc + 1) L (vI (sx i) :: S) M) : rG p l e R s m args below meth c cells slots Q D aC ad nL pc L (vI i :: vR 250 :: S) M := by
  intro H locs ls hP hO hS hl
  obtain ⟨xs, g1, g2, g3, g4, g5⟩ := hX
  refine va_sld hC.1 hC.2.1 g1 g2 g3 hS (i_in h1 h2 (by omega)) d ?_
  have h := k H locs ls hP hO hS hl
  rw [i_clamp h1 (by omega)]
  have ex : Int32.ofInt (sx i) = xs i.toNat := by
    have := g5 i.toNat (by omega)
    rw [Int.toNat_of_nonneg h1] at this
    rw [this, i_back]
  have h : W p l e R s m args below meth c H locs cells slots Q (F0 m (pc + 1) ls (.int (Int32.ofInt (sx i)) :: S.map (cV ad))) := h
  rw [ex] at h
  exact h
theorem r_icmp_same (hC : rC p R s m args meth c cells slots D aC ad nL cc own fr lo ret) {a b : Int} {off : Int} (tgt : Nat) (d : decode cc pc = .ok (.if_icmp .eq off, 3)) (ht : (pc : Int) + off = (tgt : Int)) (h : a = b) (k : rG p l e R s m args below meth c cells slots Q D aC ad nL tgt L S M) : rG p l e R s m args below meth c cells slots Q D aC ad nL pc L (vI b :: vI a :: S) M := by
  intro H locs ls hP hO hS hl
  subst h
  exact lv_icmp_eq (tgt := tgt) hC.1 hC.2.1 d ht (fun _ => k H locs ls hP hO hS hl) (fun q => absurd rfl q)
theorem r_lcmp_same (hC : rC p R s m args meth c cells slots D aC ad nL cc own fr lo ret) {a b : Int} {off : Int} (tgt : Nat) (d0 : decode cc pc = .ok (.lcmp, 1)) (d : decode cc (pc + 1) = .ok (.ifCond .eq off, 3)) (ht : ((pc + 1 : Nat) : Int) + off = (tgt : Int)) (h : a = b) (k : rG p l e R s m args below meth c cells slots Q D aC ad nL tgt L S M) : rG p l e R s m args below meth c cells slots Q D aC ad nL pc L (vJ b :: vJ a :: S) M := by
  intro H locs ls hP hO hS hl
  subst h
  refine W.lcmp hC.1 hC.2.1 d0 ?_
  have e : lg_cmp (Int64.ofInt a) (Int64.ofInt a) = Int32.ofInt 0 := by
    unfold lg_cmp
    simp
  rw [e]
  exact r_if_eq hC tgt d ht (by decide) (by decide) (fun _ => k) (fun z => absurd rfl z) H locs ls hP hO hS hl
end RSC
