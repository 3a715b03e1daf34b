section RK
variable {p : Program} {l : Launch} {e : Env} {R : Room} {s : State} {m : MethodId} {args : Array Value} {below : List Frame} {meth : Method} {c : Code} {cells slots : Nat} {Q : State → Prop}
variable {D : va_G} {aC : Nat → ClassId} {ad : Nat → Nat} {nL : Nat} {cc : ByteArray} {own : String} {fr lo : Nat} {ret : Option FieldType}
variable {pc : Nat} {L : List (Nat × RV)} {S : List RV} {M : Mem}
/-! ===== a method's entry ===== -/
def lav : Nat → List RV → List (Nat × RV)
  | _, [] => []
  | i, v :: t => (i, v) :: lav (if isJ v = true then i + 2 else i + 1) t
theorem cat_of (v : RV) : (cV ad v).category = if isJ v = true then 2 else 1 := by
  rcases v with z | z | z <;> rfl
theorem lav_eq : ∀ (av : List RV) (i : Nat), lv_args i (av.map (cV ad)) = (lav i av).map (cL ad)
  | [], _ => rfl
  | v :: t, i => by
    show (i, cV ad v) :: lv_args (if (cV ad v).category = 2 then i + 2 else i + 1) (t.map (cV ad)) = (i, cV ad v) :: (lav (if isJ v = true then i + 2 else i + 1) t).map (cL ad)
    rw [lav_eq t, cat_of v]
    by_cases h : isJ v = true <;> simp [h]
def wid : List RV → Nat
  | [] => 0
  | v :: t => (if isJ v = true then 2 else 1) + wid t
theorem wid_sl : ∀ av : List RV, (lg_sl (av.map (cV ad))).length = wid av
  | [] => rfl
  | v :: t => by
    have ih := wid_sl t
    unfold lg_sl at ih ⊢
    simp only [List.map_cons, List.flatMap_cons, List.length_append, ih, wid, cat_of v]
    by_cases h : isJ v = true <;> simp [h]
theorem cat_sum (S : List RV) : ((S.map (cV ad)).map fun v => v.category).sum = wid S := by
  induction S with
  | nil => rfl
  | cons v t ih =>
    simp only [List.map_cons, List.sum_cons, ih, wid, cat_of v]
theorem Does.of {y : MethodName} {maxL : Nat} {av : List RV} {Post : Option RV → Mem → Prop} (hy : plainName y.cls = true) (hn : wid av ≤ maxL)
    (body : ∀ (p : Program) (e : Env) (R : Room) (s : State) (m : MethodId) (args : Array Value) (below : List Frame) (meth : Method) (c : Code), rC p R s m args meth c 0 0 D aC ad maxL cc y.cls fr lo ret →
      rG p l e R s m args below meth c 0 0 (MQ below (dQ D aC ad Post) args s 0 0 (Adr ad)) D aC ad maxL 0 (lav 0 av) [] M) : Does l D aC ad y cc maxL ret fr lo av M Post := by
  refine Met.ofW (cc := cc) (maxL := maxL) (ret := ret) hy rfl ?_
  intro p e s m args below meth c s₁ B hml hv
  obtain ⟨rfl, hP, hK, hO, hSt, hAp⟩ := hv
  have hts := atoms_spec (ws := Cond.code y cc maxL ret :: lw_gd) B.pre
  have hC : rC p (headSpec (Cond.code y cc maxL ret :: lw_gd) { frames := fr, cells := 0, slots := 0, locals := lo }).room s m _ meth c 0 0 D aC ad maxL cc y.cls fr lo ret :=
    ⟨B.exec, B.bytes, hml, findClass_of_methodNamed B.named, fun w hw => hts w (List.mem_cons_of_mem _ hw), hK, hAp, hSt, B.returns, B.notSynchronized, Nat.le_refl _, Nat.le_refl _, Nat.le_refl _, Nat.le_refl _⟩
  have hl := lv_entry (av.map (cV ad)) (n := maxL) (by rw [wid_sl]; exact hn)
  rw [lg_entry_eq]
  rw [lav_eq] at hl
  exact body p e _ s m _ below meth c hC s.heap [] _ hP hO va_S.rf hl
/-! ===== returns ===== -/
theorem r_iret {Post : Option RV → Mem → Prop} {z : Int} (hC : rC p R s m args meth c cells slots D aC ad nL cc own fr lo (some .int)) (d : decode cc pc = .ok (.ireturn, 1)) (hp : Post (some (vI z)) M) : rG p l e R s m args below meth c cells slots (MQ below (dQ D aC ad Post) args s cells slots (Adr ad)) D aC ad nL pc L [vI z] M := by
  intro H locs ls hP hO hS hl
  obtain ⟨hx, hb, -, -, -, -, -, -, hr, hlk, -⟩ := hC
  exact W.iret hx hb hr (fun t ht hW => ⟨⟨some (vI z), M, rfl, hp, by rw [ht]; exact hP, hO⟩, hS.F ht⟩) hS.2.2 d hlk
theorem nar_z {z : Int} (h1 : 0 ≤ z) (h2 : z ≤ 1) : narrow .boolean (.int (Int32.ofInt z)) = .int (Int32.ofInt z) := by
  rcases (show z = 0 ∨ z = 1 by omega) with rfl | rfl <;> rfl
theorem vnar_z {z : Int} (h1 : 0 ≤ z) (h2 : z ≤ 1) : vp_nar .boolean (Int32.ofInt z) = Int32.ofInt z := by
  rcases (show z = 0 ∨ z = 1 by omega) with rfl | rfl <;> rfl
theorem r_zret {Post : Option RV → Mem → Prop} {z : Int} (hC : rC p R s m args meth c cells slots D aC ad nL cc own fr lo (some .boolean)) (d : decode cc pc = .ok (.ireturn, 1)) (h1 : 0 ≤ z) (h2 : z ≤ 1) (hp : Post (some (vI z)) M) : rG p l e R s m args below meth c cells slots (MQ below (dQ D aC ad Post) args s cells slots (Adr ad)) D aC ad nL pc L [vI z] M := by
  intro H locs ls hP hO hS hl
  obtain ⟨hx, hb, -, -, -, -, -, -, hr, hlk, -⟩ := hC
  exact W.zret hx hb hr (nar_z h1 h2) (fun t ht hW => ⟨⟨some (vI z), M, rfl, hp, by rw [ht]; exact hP, hO⟩, hS.F ht⟩) hS.2.2 d hlk
theorem r_lret {Post : Option RV → Mem → Prop} {z : Int} (hC : rC p R s m args meth c cells slots D aC ad nL cc own fr lo (some .long)) (d : decode cc pc = .ok (.lreturn, 1)) (hp : Post (some (vJ z)) M) : rG p l e R s m args below meth c cells slots (MQ below (dQ D aC ad Post) args s cells slots (Adr ad)) D aC ad nL pc L [vJ z] M := by
  intro H locs ls hP hO hS hl
  obtain ⟨hx, hb, -, -, -, -, -, -, hr, hlk, -⟩ := hC
  exact W.lret hx hb hr (fun t ht hW => ⟨⟨some (vJ z), M, rfl, hp, by rw [ht]; exact hP, hO⟩, hS.F ht⟩) hS.2.2 d hlk
theorem r_vret {Post : Option RV → Mem → Prop} (hC : rC p R s m args meth c cells slots D aC ad nL cc own fr lo none) (d : decode cc pc = .ok (.return_, 1)) (hp : Post none M) : rG p l e R s m args below meth c cells slots (MQ below (dQ D aC ad Post) args s cells slots (Adr ad)) D aC ad nL pc L [] M := by
  intro H locs ls hP hO hS hl
  obtain ⟨hx, hb, -, -, -, -, -, -, hr, hlk, -⟩ := hC
  exact W.vret hx hb hr (fun t ht hW => ⟨⟨none, M, rfl, hp, by rw [ht]; exact hP, hO⟩, hS.F ht⟩) hS.2.2 d hlk
theorem r_aret {Post : Option RV → Mem → Prop} {h : Nat} {C : String} (hC : rC p R s m args meth c cells slots D aC ad nL cc own fr lo (some (.object C))) (d : decode cc pc = .ok (.areturn, 1)) (hp : Post (some (vR h)) M) : rG p l e R s m args below meth c cells slots (MQ below (dQ D aC ad Post) args s cells slots (Adr ad)) D aC ad nL pc L [vR h] M := by
  intro H locs ls hP hO hS hl
  obtain ⟨hx, hb, -, -, -, -, -, -, hr, hlk, -⟩ := hC
  exact W.aret (v := .ref (ad h)) hx hb hr (Or.inl ⟨_, rfl⟩) (Or.inr ⟨_, rfl⟩) (fun t ht hW => ⟨⟨some (vR h), M, rfl, hp, by rw [ht]; exact hP, hO⟩, hS.F ht⟩) hS.2.2 d hlk
/-! ===== calls ===== -/
theorem r_go {H : Heap} {locs : List Loc} {ls : Array Slot} {st0 rest : List Value} {a : Array Value} {Post : Option RV → Mem → Prop} (hr : va_Run p l e R s m args below meth c H locs cells slots 0 0 (F0 m pc ls st0) rest (dQ D aC ad Post a) (Adr ad)) (hS : va_S (Adr ad) s.heap H locs)
    (kk : ∀ (r : Option RV) (M' : Mem) (H1 : Heap) (locs1 : List Loc), Post r M' → va_P D vwCl (wld aC ad M') H1 → Ok M' → va_S (Adr ad) s.heap H1 locs1 → W p l e R s m args below meth c H1 locs1 cells slots Q (F0 m (pc + 3) ls ((r.map (cV ad)).toList ++ rest))) : W p l e R s m args below meth c H locs cells slots Q (F0 m pc ls st0) := by
  intro T hT X
  obtain ⟨v, st₀, t, T', L, h0, X', hL, e1, e2, ⟨⟨r, M', hv, hp, hP, hO⟩, hz, hk⟩, st⟩ := hr T hT X
  have hv := Outcome.returned.inj hv
  subst hv
  rw [h0] at hz hk
  obtain ⟨t2, a1, b1⟩ := kk r M' T'.heap (locs ++ L) hp (by rw [e1]; exact hP) hO
    ⟨Nat.le_trans hS.1 (by rw [e1]; exact hz), fun q h1 h2 => by rw [e1, hk q (Nat.lt_of_lt_of_le h1 hS.1) h2]; exact hS.2.1 q h1 h2, fun q hq => by
      rcases List.mem_append.mp hq with h | h
      · exact hS.2.2 q h
      · exact hL q h⟩ T' rfl X'
  exact ⟨t2, st t2 a1, b1⟩
theorem gd_in_code {y : MethodName} {cc : ByteArray} {maxL : Nat} {ret : Option FieldType} (kc : Cond.code y cc maxL ret ∈ lw_gd) : GoodIn lw_gd (Cond.code y cc maxL ret :: lw_gd) := by
  intro w hw
  rcases List.mem_cons.mp hw with rfl | hw
  · exact ⟨kc, gd_good kc⟩
  · exact ⟨hw, gd_good hw⟩
theorem dP_at (hC : rC p R s m args meth c cells slots D aC ad nL cc own fr lo ret) {H : Heap} {locs : List Loc} (hP : va_P D vwCl (wld aC ad M) H) (hO : Ok M) (hS : va_S (Adr ad) s.heap H locs) {av : List RV} (U : State) (hU : U.heap = H) (hW : s.WarmedH U.vm) : dP D aC ad av M (av.map (cV ad)).toArray U :=
  ⟨rfl, by rw [hU]; exact hP, va_K.moved hW.alike hC.2.2.2.2.2.1, hO, St.move hC.2.2.2.2.2.2.2.1 hS hU hW, hC.2.2.2.2.2.2.1⟩
theorem r_callV (hC : rC p R s m args meth c cells slots D aC ad nL cc own fr lo ret) {y : MethodName} {cc' : ByteArray} {maxL' fr' lo' h ci idx : Nat} {ret' : Option FieldType} {av : List RV} {Post : Option RV → Mem → Prop}
    (hD : Does l D aC ad y cc' maxL' ret' fr' lo' (vR h :: av) M Post) (hs : shp h = .inl ci) (kc : Cond.code y cc' maxL' ret' ∈ lw_gd) (km : Cond.methodLink own idx y ∈ lw_gd) (kI : Cond.instanceMethod y ∈ lw_gd) (kS : Cond.selects (cnm ci) y y ∈ lw_gd) (kN : Cond.initialized y.cls ∈ lw_gd)
    (hd : y.cls ≠ "java/lang/invoke/MethodHandle" ∧ y.cls ≠ "java/lang/invoke/VarHandle" ∧ (parseMethodDescriptor y.desc).map (fun d => d.parameters.length) = some av.length) (hroom : fr' + 1 ≤ fr ∧ 8 + (maxL' + 11) + lo' ≤ lo) {S0 : List RV} (hst : av.reverse ++ vR h :: S = S0) (hw : wid S ≤ 8) (d : decode cc pc = .ok (.invokevirtual idx, 3))
    (k : ∀ (r : Option RV) (M' : Mem), Post r M' → rG p l e R s m args below meth c cells slots Q D aC ad nL (pc + 3) L (r.toList ++ S) M') : rG p l e R s m args below meth c cells slots Q D aC ad nL pc L S0 M := by
  intro H locs ls hP hO hS hl
  subst hst
  obtain ⟨c1, c2⟩ := shp_cls h ci hs
  have hrm := hC.2.2.2.2.2.2.2.2.2.2
  refine r_go (rest := S.map (cV ad)) (Post := Post) (va_runV (C := cnm ci) (b := ad h) (As := av.map (cV ad)) (n := av.length) (Ts := lw_gd) (own := own) (nL := nL) ⟨hC.1, hC.2.1, hC.2.2.1, hC.2.2.2.1, hC.2.2.2.2.1⟩ hD
    ⟨callB_of av.length hC.2.2.2.2.1 (gd_in_code kc) rfl rfl rfl (hC.2.2.2.2.1 _ kN) (hC.2.2.2.2.1 _ km) hd ⟨Nat.le_trans hroom.1 hrm.1, Nat.le_trans hroom.2 hrm.2.1⟩, hC.2.2.2.2.1 _ kI, hC.2.2.2.2.1 _ kS⟩
    ⟨dP_blind, va_recv (q0 := h) hC.2.2.2.2.2.1 hP (vw_at ci c1) ((wld_at c2).trans (by rw [ent_obj hs])), fun U hU hW => dP_at hC hP hO hS U hU hW⟩ rfl (by simp) hl.1 (by simp [cV]) (lv_room (by rw [cat_sum]; exact hw)) d ⟨hrm.2.2.1, hrm.2.2.2⟩) hS (fun r M' H1 locs1 hp hP1 hO1 hS1 => ?_)
  have := k r M' hp H1 locs1 ls hP1 hO1 hS1 hl
  cases r with
  | none => exact this
  | some v => exact this
theorem r_callS (hC : rC p R s m args meth c cells slots D aC ad nL cc own fr lo ret) {y : MethodName} {cc' : ByteArray} {maxL' fr' lo' idx : Nat} {ret' : Option FieldType} {av : List RV} {Post : Option RV → Mem → Prop}
    (hD : Does l D aC ad y cc' maxL' ret' fr' lo' av M Post) (kc : Cond.code y cc' maxL' ret' ∈ lw_gd) (km : Cond.methodLink own idx y ∈ lw_gd) (kT : Cond.static y ∈ lw_gd) (kN : Cond.initialized y.cls ∈ lw_gd)
    (hd : y.cls ≠ "java/lang/invoke/MethodHandle" ∧ y.cls ≠ "java/lang/invoke/VarHandle" ∧ (parseMethodDescriptor y.desc).map (fun d => d.parameters.length) = some av.length) (hroom : fr' + 1 ≤ fr ∧ 8 + (maxL' + 11) + lo' ≤ lo) {S0 : List RV} (hst : av.reverse ++ S = S0) (hw : wid S ≤ 8) (d : decode cc pc = .ok (.invokestatic idx, 3))
    (k : ∀ (r : Option RV) (M' : Mem), Post r M' → rG p l e R s m args below meth c cells slots Q D aC ad nL (pc + 3) L (r.toList ++ S) M') : rG p l e R s m args below meth c cells slots Q D aC ad nL pc L S0 M := by
  intro H locs ls hP hO hS hl
  subst hst
  have hrm := hC.2.2.2.2.2.2.2.2.2.2
  refine r_go (rest := S.map (cV ad)) (Post := Post) (va_runS (As := av.map (cV ad)) (n := av.length) (Ts := lw_gd) (own := own) (nL := nL) ⟨hC.1, hC.2.1, hC.2.2.1, hC.2.2.2.1, hC.2.2.2.2.1⟩ hD
    ⟨callB_of av.length hC.2.2.2.2.1 (gd_in_code kc) rfl rfl rfl (hC.2.2.2.2.1 _ kN) (hC.2.2.2.2.1 _ km) hd ⟨Nat.le_trans hroom.1 hrm.1, Nat.le_trans hroom.2 hrm.2.1⟩, hC.2.2.2.2.1 _ kT⟩
    ⟨dP_blind, fun U hU hW => dP_at hC hP hO hS U hU hW⟩ rfl (by simp) hl.1 (by simp) (lv_room (by rw [cat_sum]; exact hw)) d ⟨hrm.2.2.1, hrm.2.2.2⟩) hS (fun r M' H1 locs1 hp hP1 hO1 hS1 => ?_)
  have := k r M' hp H1 locs1 ls hP1 hO1 hS1 hl
  cases r with
  | none => exact this
  | some v => exact this
theorem r_callSN (hC : rC p R s m args meth c cells slots D aC ad nL cc own fr lo ret) {y : MethodName} {cc' : ByteArray} {maxL' fr' lo' idx : Nat} {ret' : Option FieldType} {av : List RV} {Post : Option RV → Mem → Prop}
    (hD : Does l D aC ad y cc' maxL' ret' fr' lo' av M Post) (kc : Cond.code y cc' maxL' ret' ∈ lw_gd) (km : Cond.methodLinkNest own idx y "SoupSand" ∈ lw_nest) (kT : Cond.static y ∈ lw_gd) (kN : Cond.initialized y.cls ∈ lw_gd)
    (hd : y.cls ≠ "java/lang/invoke/MethodHandle" ∧ y.cls ≠ "java/lang/invoke/VarHandle" ∧ (parseMethodDescriptor y.desc).map (fun d => d.parameters.length) = some av.length) (hroom : fr' + 1 ≤ fr ∧ 8 + (maxL' + 11) + lo' ≤ lo) {S0 : List RV} (hst : av.reverse ++ S = S0) (hw : wid S ≤ 8) (d : decode cc pc = .ok (.invokestatic idx, 3))
    (k : ∀ (r : Option RV) (M' : Mem), Post r M' → rG p l e R s m args below meth c cells slots Q D aC ad nL (pc + 3) L (r.toList ++ S) M') : rG p l e R s m args below meth c cells slots Q D aC ad nL pc L S0 M := by
  intro H locs ls hP hO hS hl
  subst hst
  have hrm := hC.2.2.2.2.2.2.2.2.2.2
  refine r_go (rest := S.map (cV ad)) (Post := Post) (va_runSN (host := "SoupSand") (As := av.map (cV ad)) (n := av.length) (Ts := lw_gd) (own := own) (nL := nL) ⟨hC.1, hC.2.1, hC.2.2.1, hC.2.2.2.1, hC.2.2.2.2.1⟩ hD
    ⟨va_cnB av.length hC.2.2.2.2.1 (gd_in_code kc) rfl rfl rfl (hC.2.2.2.2.2.2.2.1.1 _ km) (hC.2.2.2.2.1 _ kN) hd ⟨Nat.le_trans hroom.1 hrm.1, Nat.le_trans hroom.2 hrm.2.1⟩, hC.2.2.2.2.1 _ kT, trivial⟩
    ⟨dP_blind, fun U hU hW => dP_at hC hP hO hS U hU hW⟩ rfl (by simp) hl.1 (by simp) (lv_room (by rw [cat_sum]; exact hw)) d ⟨hrm.2.2.1, hrm.2.2.2⟩) hS (fun r M' H1 locs1 hp hP1 hO1 hS1 => ?_)
  have := k r M' hp H1 locs1 ls hP1 hO1 hS1 hl
  cases r with
  | none => exact this
  | some v => exact this
/-! what a method answers, by its type; a method that changes nothing -/
def pI (Q : Int → Mem → Prop) : Option RV → Mem → Prop := fun r M => ∃ z, r = some (vI z) ∧ Q z M
def pJ (Q : Int → Mem → Prop) : Option RV → Mem → Prop := fun r M => ∃ z, r = some (vJ z) ∧ Q z M
def pV (Q : Mem → Prop) : Option RV → Mem → Prop := fun r M => r = none ∧ Q M
def pR (Q : Nat → Mem → Prop) : Option RV → Mem → Prop := fun r M => ∃ h, r = some (vR h) ∧ Q h M
def qI (M0 : Mem) (Q : Int → Prop) : Option RV → Mem → Prop := fun r M => M = M0 ∧ ∃ z, r = some (vI z) ∧ Q z
def qJ (M0 : Mem) (Q : Int → Prop) : Option RV → Mem → Prop := fun r M => M = M0 ∧ ∃ z, r = some (vJ z) ∧ Q z
def qR (M0 : Mem) (Q : Nat → Prop) : Option RV → Mem → Prop := fun r M => M = M0 ∧ ∃ h, r = some (vR h) ∧ Q h
end RK
