section RJ
variable {p : Program} {l : Launch} {e : Env} {R : Room} {s : State} {m : MethodId} {args : Array Value} {below : List Frame} {meth : Method} {c : Code} {cells slots : Nat} {Qs : State → Prop}
variable {D : va_G} {aC : Nat → ClassId} {ad : Nat → Nat} {nL : Nat} {cc : ByteArray} {own : String} {fr lo : Nat} {ret : Option FieldType}
variable {pc : Nat} {L : List (Nat × RV)} {S : List RV} {M : Mem}
theorem r_bits (hC : rC p R s m args meth c cells slots D aC ad nL cc own fr lo ret) {idx : Nat} {x : Int} {Q : Int → Prop} (km : Cond.methodLink own idx ⟨"java/lang/Integer", "bitCount", "(I)I"⟩ ∈ lw_gd) (hf : 1 ≤ fr) (hw8 : wid S ≤ 8) (d : decode cc pc = .ok (.invokestatic idx, 3)) (hw : w_bitCount x Q)
    (k : ∀ z, Q z → rG p l e R s m args below meth c cells slots Qs D aC ad nL (pc + 3) L (vI z :: S) M) (hlo : 20 ≤ lo := by decide) : rG p l e R s m args below meth c cells slots Qs D aC ad nL pc L (vI x :: S) M := by
  sorry
theorem r_sempty (hC : rC p R s m args meth c cells slots D aC ad nL cc own fr lo ret) {idx h : Nat} {Q : Int → Prop} (km : Cond.methodLink own idx ⟨"java/lang/String", "isEmpty", "()Z"⟩ ∈ lw_gd) (hf : 1 ≤ fr) (hw8 : wid S ≤ 8) (d : decode cc pc = .ok (.invokevirtual idx, 3)) (hw : w_sempty h Q)
    (k : ∀ z, Q z → rG p l e R s m args below meth c cells slots Qs D aC ad nL (pc + 3) L (vI z :: S) M) (hlo : 20 ≤ lo := by decide) : rG p l e R s m args below meth c cells slots Qs D aC ad nL pc L (vR h :: S) M := by
  sorry
theorem r_slength (hC : rC p R s m args meth c cells slots D aC ad nL cc own fr lo ret) {idx h : Nat} {Q : Int → Prop} (km : Cond.methodLink own idx ⟨"java/lang/String", "length", "()I"⟩ ∈ lw_gd) (hf : 2 ≤ fr) (hw8 : wid S ≤ 8) (d : decode cc pc = .ok (.invokevirtual idx, 3)) (hw : w_slength h Q)
    (k : ∀ z, Q z → rG p l e R s m args below meth c cells slots Qs D aC ad nL (pc + 3) L (vI z :: S) M) (hlo : 40 ≤ lo := by decide) : rG p l e R s m args below meth c cells slots Qs D aC ad nL pc L (vR h :: S) M := by
  sorry
theorem r_scharAt (hC : rC p R s m args meth c cells slots D aC ad nL cc own fr lo ret) {idx h : Nat} {j : Int} {Q : Int → Prop} (km : Cond.methodLink own idx ⟨"java/lang/String", "charAt", "(I)C"⟩ ∈ lw_gd) (hf : 4 ≤ fr) (hw8 : wid S ≤ 8) (d : decode cc pc = .ok (.invokevirtual idx, 3)) (hw : w_scharAt h j Q)
    (k : ∀ z, Q z → rG p l e R s m args below meth c cells slots Qs D aC ad nL (pc + 3) L (vI z :: S) M) (hlo : 130 ≤ lo := by decide) : rG p l e R s m args below meth c cells slots Qs D aC ad nL pc L (vI j :: vR h :: S) M := by
  sorry
end RJ
