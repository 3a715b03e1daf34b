/-! ===== what stands beside the two systems: links to nest mates, the class's static arrays, its String constants ===== -/
def St (ad : Nat → Nat) (U : State) (H : Heap) : Prop :=
  (∀ w ∈ lw_nest, va_Nw w U) ∧
  (∀ k : Nat, k < nSta → va_Z "SoupSand$Rules" (stN k) "[I" (.ref (ad (201 + k))) (Adr ad) U H ∧ va_T .int (ad (201 + k)) 10 (fun j => .int (Int32.ofInt ((stT k).getD j 0))) (Adr ad) U H) ∧
  vk_S nStr strLen strByt (fun i => ad (211 + i)) (fun i => ad (231 + i)) (Adr ad) U H ∧
  (∀ i : Nat, i < nStr → vk_R "SoupSand$Reader" (strIx i) (strTx i) (ad (211 + i)) U) ∧
  va_Z "java/lang/String" "COMPACT_STRINGS" "Z" (.int 1) (Adr ad) U H ∧
  va_Zq "jdk/internal/util/Preconditions" "SIOOBE_FORMATTER" "Ljava/util/function/BiFunction;" (Adr ad) U H
theorem St.move {ad : Nat → Nat} {s U : State} {H : Heap} {locs : List Loc} (h : St ad s s.heap) (hS : va_S (Adr ad) s.heap H locs) (hU : U.heap = H) (hW : s.WarmedH U.vm) : St ad U U.heap := by
  obtain ⟨h1, h2, h3, h4, h5, h6⟩ := h
  have hk : ∀ a : Nat, a < s.heap.size → ¬ Adr ad a → U.heap[a]? = s.heap[a]? := fun a g1 g2 => by rw [hU]; exact hS.2.1 a g1 g2
  refine ⟨fun w hw => ?_, fun k hk3 => ⟨(va_Z.moved hW.alike (h2 k hk3).1).kept hk, (va_T.moved hW.alike (h2 k hk3).2).kept hk⟩, (vk_S.moved hW.alike h3).kept hk, fun i hi => (h4 i hi).warm hW, (va_Z.moved hW.alike h5).kept hk, (va_Zq.moved hW.alike h6).kept hk⟩
  obtain ⟨a, i, y, b, rfl⟩ := lw_nest_form w hw
  exact (h1 _ hw).warmM hW
theorem St.same {ad : Nat → Nat} {u U : State} (hv : U.vm = u.vm) (hh : U.heap = u.heap) (h : St ad u u.heap) : St ad U U.heap := by
  obtain ⟨h1, h2, h3, h4, h5, h6⟩ := h
  have hA : u.vm.Alike U.vm := by rw [hv]; exact Vm.Alike.refl _
  rw [hh]
  refine ⟨fun w hw => ?_, fun k hk => ⟨va_Z.moved hA (h2 k hk).1, va_T.moved hA (h2 k hk).2⟩, vk_S.moved hA h3, fun i hi => (h4 i hi).same hv, va_Z.moved hA h5, va_Zq.moved hA h6⟩
  obtain ⟨a, i, y, b, rfl⟩ := lw_nest_form w hw
  exact (h1 _ hw).same rfl hv.symm
/-! ===== a method's contract in these words ===== -/
def dP (D : va_G) (aC : Nat → ClassId) (ad : Nat → Nat) (av : List RV) (M : Mem) : Array Value → State → Prop := fun a U =>
  a = (av.map (cV ad)).toArray ∧ va_P D vwCl (wld aC ad M) U.heap ∧ va_K D vwCl (tysA aC) U ∧ Ok M ∧ St ad U U.heap ∧ Apart ad
def dQ (D : va_G) (aC : Nat → ClassId) (ad : Nat → Nat) (Post : Option RV → Mem → Prop) : Array Value → State → Outcome → State → Prop := fun _ st oc t =>
  (∃ (r : Option RV) (M' : Mem), oc = .returned (r.map (cV ad)) ∧ Post r M' ∧ va_P D vwCl (wld aC ad M') t.heap ∧ Ok M') ∧ va_F (Adr ad) st t
def Does (l : Launch) (D : va_G) (aC : Nat → ClassId) (ad : Nat → Nat) (y : MethodName) (cc : ByteArray) (maxL : Nat) (ret : Option FieldType) (fr lo : Nat) (av : List RV) (M : Mem) (Post : Option RV → Mem → Prop) : Prop :=
  Met l y (Cond.code y cc maxL ret :: lw_gd) { frames := fr, cells := 0, slots := 0, locals := lo } (dP D aC ad av M) (dQ D aC ad Post) 0 0 (Adr ad)
theorem dP_blind {D : va_G} {aC : Nat → ClassId} {ad : Nat → Nat} {av : List RV} {M : Mem} : FrameBlind (dP D aC ad av M) := by
  intro a U g mk ⟨h1, h2, h3, h4, h5, h6⟩
  exact ⟨h1, h2, va_K.moved (u := U) (U := U.calling g mk a) (Vm.Alike.refl U.vm) h3, h4, St.same (u := U) (U := U.calling g mk a) rfl rfl h5, h6⟩
/-! ===== the walk: a goal for each point of a method's code ===== -/
section RM
variable {p : Program} {l : Launch} {e : Env} {R : Room} {s : State} {m : MethodId} {args : Array Value} {below : List Frame} {meth : Method} {c : Code} {cells slots : Nat} {Q : State → Prop}
variable {D : va_G} {aC : Nat → ClassId} {ad : Nat → Nat} {nL : Nat} {cc : ByteArray} {own : String} {fr lo : Nat} {ret : Option FieldType}
variable {pc : Nat} {L : List (Nat × RV)} {S : List RV} {M : Mem}
def rG (p : Program) (l : Launch) (e : Env) (R : Room) (s : State) (m : MethodId) (args : Array Value) (below : List Frame) (meth : Method) (c : Code) (cells slots : Nat) (Q : State → Prop) (D : va_G) (aC : Nat → ClassId) (ad : Nat → Nat) (nL : Nat) (pc : Nat) (L : List (Nat × RV)) (S : List RV) (M : Mem) : Prop :=
  ∀ (H : Heap) (locs : List Loc) (ls : Array Slot), va_P D vwCl (wld aC ad M) H → Ok M → va_S (Adr ad) s.heap H locs → lv_has ls nL (L.map (cL ad)) → W p l e R s m args below meth c H locs cells slots Q (F0 m pc ls (S.map (cV ad)))
def rC (p : Program) (R : Room) (s : State) (m : MethodId) (args : Array Value) (meth : Method) (c : Code) (cells slots : Nat) (D : va_G) (aC : Nat → ClassId) (ad : Nat → Nat) (nL : Nat) (cc : ByteArray) (own : String) (fr lo : Nat) (ret : Option FieldType) : Prop :=
  p.tables.exec = Jvm.exec ∧ c.code = cc ∧ c.maxLocals = nL ∧ s.vm.findClass own = some m.cls ∧ (∀ w ∈ lw_gd, w.before args s = true) ∧ va_K D vwCl (tysA aC) s ∧ Apart ad ∧ St ad s s.heap ∧ meth.sig.returnType = ret ∧ meth.locks = false ∧ (fr ≤ R.frames ∧ lo ≤ R.locals ∧ cells ≤ R.cells ∧ slots ≤ R.slots)
/-! locals -/
def lk : List (Nat × RV) → Nat → Option RV
  | [], _ => none
  | q :: t, i => bif Nat.beq q.1 i then some q.2 else lk t i
theorem lk_mem : ∀ {L : List (Nat × RV)} {i : Nat} {v : RV}, lk L i = some v → (i, v) ∈ L
  | [], _, _, h => by cases h
  | (j, w) :: t, i, v, h => by
    unfold lk at h
    cases hb : Nat.beq j i with
    | true =>
      rw [hb] at h
      have e : j = i := Nat.eq_of_beq_eq_true hb
      cases h
      rw [e]
      exact List.mem_cons_self
    | false =>
      rw [hb] at h
      exact List.mem_cons_of_mem _ (lk_mem h)
theorem lk_at {ls : Array Slot} {i : Nat} {v : RV} (hl : lv_has ls nL (L.map (cL ad))) (h : lk L i = some v) : ls[i]? = some (.val (cV ad v)) :=
  hl.2.2 (i, cV ad v) (List.mem_map.mpr ⟨(i, v), lk_mem h, rfl⟩)
def isJ : RV → Bool
  | .inr (.inl _) => true
  | _ => false
/-- the locals behind a store of one slot -/
def rdel (i : Nat) : List (Nat × RV) → List (Nat × RV)
  | [] => []
  | q :: t => bif Nat.beq q.1 i then rdel i t else bif (Nat.beq (q.1 + 1) i && isJ q.2) then rdel i t else q :: rdel i t
def rst (L : List (Nat × RV)) (i : Nat) (v : RV) : List (Nat × RV) := (i, v) :: rdel i L
/-- behind a store of two -/
def rstJ (L : List (Nat × RV)) (i : Nat) (v : RV) : List (Nat × RV) := (i, v) :: rdel i (rdel (i + 1) L)
theorem rdel_mem {i : Nat} : ∀ {L : List (Nat × RV)} {q : Nat × RV}, q ∈ rdel i L → q ∈ L ∧ q.1 ≠ i ∧ ¬ (q.1 + 1 = i ∧ isJ q.2 = true)
  | [], q, h => by cases h
  | a :: t, q, h => by
    unfold rdel at h
    cases hb : Nat.beq a.1 i with
    | true =>
      rw [hb] at h
      obtain ⟨h1, h2⟩ := rdel_mem h
      exact ⟨List.mem_cons_of_mem _ h1, h2⟩
    | false =>
      rw [hb] at h
      cases hc : (Nat.beq (a.1 + 1) i && isJ a.2) with
      | true =>
        rw [hc] at h
        obtain ⟨h1, h2⟩ := rdel_mem h
        exact ⟨List.mem_cons_of_mem _ h1, h2⟩
      | false =>
        rw [hc] at h
        rcases List.mem_cons.mp h with rfl | h
        · refine ⟨List.mem_cons_self, fun e => ?_, fun ⟨e1, e2⟩ => ?_⟩
          · rw [e, Nat.beq_refl] at hb; cases hb
          · rw [e2, e1] at hc; simp at hc
        · obtain ⟨h1, h2⟩ := rdel_mem h
          exact ⟨List.mem_cons_of_mem _ h1, h2⟩
theorem cat_isJ {v : RV} (h : (cV ad v).category = 2) : isJ v = true := by
  rcases v with z | z | z
  · cases h
  · rfl
  · cases h
theorem has_rst {ls : Array Slot} {i : Nat} {v : RV} (h : lv_has ls nL ((i, cV ad v) :: (L.map (cL ad)).filter (fun q => !(q.1 == i) && !(q.1 + 1 == i && q.2.category == 2)))) : lv_has ls nL ((rst L i v).map (cL ad)) := by
  refine ⟨h.1, h.2.1, fun q hq => h.2.2 q ?_⟩
  obtain ⟨a, ha, rfl⟩ := List.mem_map.mp hq
  rcases List.mem_cons.mp ha with rfl | ha
  · exact List.mem_cons_self
  · obtain ⟨h1, h2, h3⟩ := rdel_mem ha
    refine List.mem_cons_of_mem _ (List.mem_filter.mpr ⟨List.mem_map.mpr ⟨a, h1, rfl⟩, ?_⟩)
    simp only [cL, Bool.and_eq_true, Bool.not_eq_true', beq_eq_false_iff_ne, ne_eq, Bool.and_eq_false_iff]
    refine ⟨h2, ?_⟩
    by_cases e : a.1 + 1 = i
    · exact Or.inr fun q => h3 ⟨e, cat_isJ (ad := ad) q⟩
    · exact Or.inl e
theorem has_rstJ {ls : Array Slot} {i : Nat} {v : RV} (h : lv_has ls nL ((i, cV ad v) :: (L.map (cL ad)).filter (fun q => !(q.1 == i) && (!(q.1 == i + 1) && !(q.1 + 1 == i && q.2.category == 2))))) : lv_has ls nL ((rstJ L i v).map (cL ad)) := by
  refine ⟨h.1, h.2.1, fun q hq => h.2.2 q ?_⟩
  obtain ⟨a, ha, rfl⟩ := List.mem_map.mp hq
  rcases List.mem_cons.mp ha with rfl | ha
  · exact List.mem_cons_self
  · obtain ⟨h0, h2, h3⟩ := rdel_mem ha
    obtain ⟨h1, h4, -⟩ := rdel_mem h0
    refine List.mem_cons_of_mem _ (List.mem_filter.mpr ⟨List.mem_map.mpr ⟨a, h1, rfl⟩, ?_⟩)
    simp only [cL, Bool.and_eq_true, Bool.not_eq_true', beq_eq_false_iff_ne, ne_eq, Bool.and_eq_false_iff]
    refine ⟨h2, h4, ?_⟩
    by_cases e : a.1 + 1 = i
    · exact Or.inr fun q => h3 ⟨e, cat_isJ (ad := ad) q⟩
    · exact Or.inl e
def lsub (L : List (Nat × RV)) : List (Nat × RV) → Prop
  | [] => True
  | q :: t => lk L q.1 = some q.2 ∧ lsub L t
theorem lsub_mem : ∀ {L' : List (Nat × RV)}, lsub L L' → ∀ q ∈ L', q ∈ L
  | [], _, q, h => by cases h
  | a :: t, h, q, hq => by
    rcases List.mem_cons.mp hq with rfl | hq
    · exact lk_mem h.1
    · exact lsub_mem h.2 q hq
/-- fewer locals, in another order -/
theorem r_sub {L' : List (Nat × RV)} (h : lsub L L') (k : rG p l e R s m args below meth c cells slots Q D aC ad nL pc L' S M) : rG p l e R s m args below meth c cells slots Q D aC ad nL pc L S M := by
  intro H locs ls hP hO hS hl
  refine k H locs ls hP hO hS ⟨hl.1, hl.2.1, fun q hq => ?_⟩
  obtain ⟨a, ha, rfl⟩ := List.mem_map.mp hq
  exact hl.2.2 _ (List.mem_map.mpr ⟨a, lsub_mem h a ha, rfl⟩)
end RM
