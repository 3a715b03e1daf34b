/-! ===== what stands beside, for all cells made since the law began ===== -/
def StA (ad : Nat → Nat) (n0 : Nat) (U : State) (H : Heap) : Prop :=
  (∀ w ∈ lw_nest, va_Nw w U) ∧
  (∀ k : Nat, k < nSta → va_Z "SoupSand$Rules" (stN k) "[I" (.ref (ad (201 + k))) (nA n0) U H ∧ va_T .int (ad (201 + k)) 10 (fun j => .int (Int32.ofInt ((stT k).getD j 0))) (nA n0) U H) ∧
  vk_S nStr strLen strByt (fun i => ad (211 + i)) (fun i => ad (231 + i)) (nA n0) U H ∧
  (∀ i : Nat, i < nStr → vk_R "SoupSand$Reader" (strIx i) (strTx i) (ad (211 + i)) U) ∧
  va_Z "java/lang/String" "COMPACT_STRINGS" "Z" (.int 1) (nA n0) U H ∧
  va_Zq "jdk/internal/util/Preconditions" "SIOOBE_FORMATTER" "Ljava/util/function/BiFunction;" (nA n0) U H
theorem StA.move {ad : Nat → Nat} {n0 : Nat} {s U : State} {H : Heap} {locs : List Loc} (h : StA ad n0 s s.heap) (hS : va_S (nA n0) s.heap H locs) (hU : U.heap = H) (hW : s.WarmedH U.vm) : StA ad n0 U U.heap := by
  obtain ⟨h1, h2, h3, h4, h5, h6⟩ := h
  have hk : ∀ a : Nat, a < s.heap.size → ¬ nA n0 a → U.heap[a]? = s.heap[a]? := fun a g1 g2 => by rw [hU]; exact hS.2.1 a g1 g2
  refine ⟨fun w hw => ?_, fun k hk3 => ⟨(va_Z.moved hW.alike (h2 k hk3).1).kept hk, (va_T.moved hW.alike (h2 k hk3).2).kept hk⟩, (vk_S.moved hW.alike h3).kept hk, fun i hi => (h4 i hi).warm hW, (va_Z.moved hW.alike h5).kept hk, (va_Zq.moved hW.alike h6).kept hk⟩
  obtain ⟨a, i, y, b, rfl⟩ := lw_nest_form w hw
  exact (h1 _ hw).warmM hW
theorem StA.same {ad : Nat → Nat} {n0 : Nat} {u U : State} (hv : U.vm = u.vm) (hh : U.heap = u.heap) (h : StA ad n0 u u.heap) : StA ad n0 U U.heap := by
  obtain ⟨h1, h2, h3, h4, h5, h6⟩ := h
  have hA : u.vm.Alike U.vm := by rw [hv]; exact Vm.Alike.refl _
  rw [hh]
  refine ⟨fun w hw => ?_, fun k hk => ⟨va_Z.moved hA (h2 k hk).1, va_T.moved hA (h2 k hk).2⟩, vk_S.moved hA h3, fun i hi => (h4 i hi).same hv, va_Z.moved hA h5, va_Zq.moved hA h6⟩
  obtain ⟨a, i, y, b, rfl⟩ := lw_nest_form w hw
  exact (h1 _ hw).same rfl hv.symm
theorem StA.ag {ad ad0 : Nat → Nat} {n0 : Nat} {U : State} {H : Heap} (h : StA ad0 n0 U H) (hg : ∀ h, 99 ≤ h → ad h = ad0 h) : StA ad n0 U H := by
  obtain ⟨h1, h2, h3, h4, h5, h6⟩ := h
  have e2 : (fun i => ad (211 + i)) = fun i => ad0 (211 + i) := funext fun i => hg _ (by omega)
  have e3 : (fun i => ad (231 + i)) = fun i => ad0 (231 + i) := funext fun i => hg _ (by omega)
  refine ⟨h1, fun k hk => ?_, ?_, fun i hi => ?_, h5, h6⟩
  · rw [hg (201 + k) (by omega)]; exact h2 k hk
  · rw [e2, e3]; exact h3
  · rw [hg (211 + i) (by omega)]; exact h4 i hi
theorem StA.to {ad : Nat → Nat} {n0 : Nat} {U : State} {H : Heap} (h : StA ad n0 U H) (hA : ∀ q, Adr ad q → nA n0 q) : St ad U H := by
  obtain ⟨h1, h2, h3, h4, h5, h6⟩ := h
  exact ⟨h1, fun k hk => ⟨(h2 k hk).1.narrow hA, (h2 k hk).2.narrow hA⟩, h3.narrow hA, h4, h5.narrow hA, h6.narrow hA⟩
theorem StA.Sc {ad : Nat → Nat} {n0 : Nat} {U : State} {H : Heap} (h : StA ad n0 U H) : Sc (ad 201) n0 U H := ⟨h.1, (h.2.1 0 (by decide)).1, (h.2.1 0 (by decide)).2⟩
/-! a world that is whole -/
def fullw (hs : List Nat) (zl : List (Nat × Nat)) : Bool := (List.range 99).all fun h => (hs.any fun x => Nat.beq h x) && (match shp h with
  | .inl ci => (List.range (nfd ci)).all fun k => (!(Nat.beq (fda ci k).1 0)) || zin zl h k
  | .inr _ => true)
theorem fullw_at {hs : List Nat} {zl : List (Nat × Nat)} (hf : fullw hs zl = true) {h : Nat} (hh : h < 99) : ∃ q : Nat, hs[q]? = some h := by
  have := List.all_eq_true.mp hf h (List.mem_range.mpr hh)
  rw [Bool.and_eq_true] at this
  obtain ⟨x, hx, hb⟩ := List.any_eq_true.mp this.1
  rw [← Nat.eq_of_beq_eq_true hb] at hx
  exact List.mem_iff_getElem?.mp hx
theorem entP_full {hs : List Nat} {zl : List (Nat × Nat)} (hf : fullw hs zl = true) {h : Nat} (hh : h < 99) {aC : Nat → ClassId} {ad : Nat → Nat} {M : Mem} : entP aC ad zl M h = ent aC ad M h := by
  have h1 := List.all_eq_true.mp hf h (List.mem_range.mpr hh)
  rw [Bool.and_eq_true] at h1
  have h2 := h1.2
  cases hs0 : shp h with
  | inr x =>
    unfold entP ent
    rw [hs0]
  | inl ci =>
    rw [hs0] at h2
    have h3 : ((List.range (nfd ci)).all fun k => (!(Nat.beq (fda ci k).1 0)) || zin zl h k) = true := h2
    rw [entP_obj hs0, ent_obj hs0]
    congr 2
    unfold fLP fLs
    apply List.map_congr_left
    intro k hk
    have h4 := List.all_eq_true.mp h3 k hk
    unfold fVP fVal
    by_cases hz : (fda ci k).1 = 0
    · rw [if_pos hz, if_pos hz]
      rw [hz] at h4
      have h5 : zin zl h k = true := h4
      rw [if_pos h5]
    · rw [if_neg hz, if_neg hz]
theorem pw_wld {hs : List Nat} {zl : List (Nat × Nat)} (hf : fullw hs zl = true) {D : va_G} {aC : Nat → ClassId} {ad : Nat → Nat} {M : Mem} {H : Heap} (hP : va_P D vwCl (pw aC ad zl M hs) H) : va_P D vwCl (wld aC ad M) H := by
  intro k q hk
  have hl : k < 99 := by
    have := (List.getElem?_eq_some_iff.mp hk).1
    simpa [wld] using this
  obtain ⟨i, hi⟩ := fullw_at hf hl
  have h1 := hP i _ (pw_at hi)
  rw [entP_full hf hl] at h1
  rw [wld_at hl] at hk
  cases hk
  exact h1
theorem pw_apart {hs : List Nat} {zl : List (Nat × Nat)} (hf : fullw hs zl = true) {A : Nat → Prop} {aC : Nat → ClassId} {ad : Nat → Nat} {M : Mem} (hD : va_D A (pw aC ad zl M hs)) : Apart ad := by
  intro i j hi hj e
  obtain ⟨a, ha⟩ := fullw_at hf hi
  obtain ⟨b, hb⟩ := fullw_at hf hj
  have := hD.1 a b _ _ (pw_at ha) (pw_at hb) e
  subst this
  rw [ha] at hb
  exact Option.some.inj hb
section CT
variable {p : Program} {l : Launch} {e : Env} {R : Room} {s : State} {m : MethodId} {args : Array Value} {below : List Frame} {meth : Method} {c : Code} {cells slots : Nat} {Q : State → Prop}
variable {D : va_G} {aC : Nat → ClassId} {nL : Nat} {cc : ByteArray} {own : String} {fr lo mc ms n0 f0 : Nat} {ret : Option FieldType} {ad0 : Nat → Nat} {h0 : List Nat}
variable {pc : Nat} {L : List (Nat × RV)} {S : List RV} {M : Mem} {hs : List Nat} {zl : List (Nat × Nat)}
theorem c_to_r (hC : cC p R s m args meth c D aC n0 f0 nL cc own fr lo mc ms ret) (h300 : ad0 300 = n0) (hSt : StA ad0 n0 s s.heap) (hf : fullw hs zl = true) (hO : Ok M) (hcs : cells ≤ mc ∧ slots ≤ ms) {fr' lo' : Nat} (hr : fr' ≤ fr ∧ lo' ≤ lo)
    (k : ∀ ad : Nat → Nat, (∀ h, h ∈ h0 ∨ 99 ≤ h → ad h = ad0 h) → rC p R s m args meth c cells slots D aC ad nL cc own fr' lo' ret → (∀ h, h < 99 → n0 ≤ ad h) → rG p l e R s m args below meth c cells slots Q D aC ad nL pc L S M) : cG p l e R s m args below meth c cells slots Q D aC n0 ad0 h0 nL hs zl pc L S M := by
  intro ad H locs ls g hP hD hS hl
  have hge : ∀ h, h < 99 → n0 ≤ ad h := fun h hh => by
    obtain ⟨q, hq⟩ := fullw_at hf hh
    exact hD.2 q _ (pw_at hq)
  have h3 : ad 300 = n0 := (g 300 (Or.inr (by decide))).trans h300
  have hA : ∀ q, Adr ad q → nA n0 q := by
    intro q hq
    rcases hq with ⟨h, h1, rfl⟩ | h
    · exact hge h h1
    · rw [h3] at h; exact h
  obtain ⟨x1, x2, x3, x4, x5, x6, x7, x8, x9, x10, x11, x12, x13, x14⟩ := hC
  exact k ad g ⟨x1, x2, x3, x4, x5, x6, pw_apart hf hD, (hSt.ag (fun h hh => g h (Or.inr hh))).to hA, x9, x10, Nat.le_trans hr.1 x11, Nat.le_trans hr.2 x12, Nat.le_trans hcs.1 x13, Nat.le_trans hcs.2 x14⟩ hge H locs ls (pw_wld hf hP) hO ⟨hS.1, fun q h1 h2 => hS.2.1 q h1 (fun h4 => h2 (Or.inr (by rw [h3]; exact h4))), fun q hq => Or.inr (by rw [h3]; exact hS.2.2 q hq)⟩ hl
theorem c_new (hC : cC p R s m args meth c D aC n0 f0 nL cc own fr lo mc ms ret) {i1 gg ci cells' slots' : Nat} {hs' : List Nat} (kN : Cond.initialized (cnm ci) ∈ lw_gd) (kcl : Cond.classLink own i1 (cnm ci) ∈ lw_gd) (kin : Cond.instantiable (cnm ci) (nfd ci) ∈ lw_gd) (hs0 : shp gg = .inl ci) (hM0 : ∀ j : Nat, M gg j = 0) (hfr : frs zl hs h0 L S gg = true) (eh : hs ++ [gg] = hs') (ec : cells + 1 = cells') (es : slots + nfd ci = slots') (hcs : cells' ≤ mc ∧ slots' ≤ ms)
    (d1 : decode cc pc = .ok (.new i1, 3)) (k : cG p l e R s m args below meth c cells' slots' Q D aC n0 ad0 h0 nL hs' zl (pc + 3) L (vR gg :: S) M) : cG p l e R s m args below meth c cells slots Q D aC n0 ad0 h0 nL hs zl pc L S M := by
  intro ad H locs ls g hP hD hS hl
  subst ec; subst es; subst eh
  have hrm := hC.2.2.2.2.2.2.2.2.2.2
  obtain ⟨c1, c2⟩ := shp_cls gg ci hs0
  unfold frs at hfr
  simp only [Bool.and_eq_true] at hfr
  obtain ⟨f1, f2, f3, f4, f5⟩ := hfr
  have hz0 : ∀ k, zin zl gg k = false := by
    intro k
    cases hb : zin zl gg k with
    | false => rfl
    | true =>
      have := List.all_eq_true.mp f3 _ (zin_mem hb)
      rw [Bool.and_eq_true] at this
      exact absurd rfl (bne_of this.2)
  refine va_new (D := D) (ci := ci) (fs := fLP ad zl M gg ci) (C := cnm ci) (T := ctb ci) (N := nfd ci) hC.1 hC.2.1 hC.2.2.2.2.1 (cls_lay ci c1) (cty ci) (cls_ty ci c1) hC.2.2.2.1 (hC.2.2.2.2.1 _ kcl) (hC.2.2.2.2.1 _ kin) (hC.2.2.2.2.1 _ kN) hC.2.2.2.2.2.1 hP hD hS (fun q hq => Nat.le_trans hC.2.2.2.2.2.2.1 hq) (vw_at ci c1) (fun j hj => ?_) (Nat.le_trans hcs.1 hrm.2.2.1) (Nat.le_trans hcs.2 hrm.2.2.2) d1 (fun q H1 hP1 hD1 hS1 => ?_)
  · show _ = (fLP ad zl M gg ci).getD j .null
    rw [List.getD_eq_getElem?_getD, fLP_at hj]
    show _ = fVP ad zl M gg j (fda ci j)
    unfold fVP
    rw [hz0 j, hM0 j]
    by_cases hz : (fda ci j).1 = 0
    · rw [if_pos hz]
      obtain ⟨n1, n2⟩ := cls_ref ci c1 j hj hz
      rw [(isRT_ok n2).1]
      rfl
    · rw [if_neg hz]
      exact cls_nr ci c1 j hj hz
  · have ew : pw aC ad zl M hs ++ [(q, .inr (ci, fLP ad zl M gg ci))] = pw aC (adu ad gg q) zl M (hs ++ [gg]) := by
      show _ = (hs ++ [gg]).map _
      rw [List.map_append]
      show _ = pw aC (adu ad gg q) zl M hs ++ [(adu ad gg q gg, entP aC (adu ad gg q) zl M gg)]
      rw [pw_adu f1 f3, adu_eq, entP_adu f3, entP_obj hs0]
    rw [ew] at hP1 hD1
    have := k (adu ad gg q) H1 locs ls (fun x hx => by
      have ne : x ≠ gg := by
        rcases hx with hx | hx
        · exact bne_of (List.all_eq_true.mp f2 x hx)
        · have : gg < 99 := c2
          omega
      rw [adu_ne ne]; exact g x hx) hP1 hD1 hS1 (by rw [mem_adu f4]; exact hl)
    have eS : (vR gg :: S).map (cV (adu ad gg q)) = .ref q :: S.map (cV ad) := by
      rw [List.map_cons, stk_adu f5]
      show Value.ref (adu ad gg q gg) :: _ = _
      rw [adu_eq]
    rw [eS] at this
    exact this
end CT
/-! ===== the numbers at the start ===== -/
def cm4 : Mem := mset cm3 12 (61 : Nat) (-1)
theorem cm4_row {h : Nat} (h1 : h ≠ 19) (h2 : h ≠ 30) (h3 : h ≠ 11) (h4 : h ≠ 12) : cm4 h = fun _ => 0 := by
  unfold cm4 cm3
  rw [mset_ne h4, mset_ne h3]
  unfold cm2 rmem
  rw [if_neg h2]
  unfold cm1 gmem
  rw [if_neg h1]
def okB (h : Nat) : Bool := match shp h with
  | .inl ci => (List.range (nfd ci)).all fun k => Nat.beq (fda ci k).1 0 || (decide ((fda ci k).2.1 ≤ cm4 h k) && decide (cm4 h k ≤ (fda ci k).2.2))
  | .inr (_, _, lo, hi) => decide (lo ≤ 0) && decide (0 ≤ hi)
theorem okB_all : ∀ h, h < 99 → okB h = true := by decide +kernel
theorem fiS_b (j : Int) : 0 ≤ fiS j ∧ fiS j ≤ 999 := by
  unfold fiS
  repeat' split
  all_goals omega
theorem cm4_19 : cm4 19 = fun j => if 0 ≤ j ∧ j < 6 then 500 else 0 := rfl
theorem cm4_30 : cm4 30 = fun j => if 0 ≤ j ∧ j < 25 then fiS j else 0 := rfl
theorem ok_cm4 : Ok cm4 := by
  intro h hh
  have hb := okB_all h hh
  unfold okB at hb
  unfold okAt
  cases hs : shp h with
  | inl ci =>
    rw [hs] at hb
    intro k hk hn
    have h1 := List.all_eq_true.mp hb k (List.mem_range.mpr hk)
    rw [Bool.or_eq_true] at h1
    rcases h1 with h1 | h1
    · exact absurd (Nat.eq_of_beq_eq_true h1) hn
    · rw [Bool.and_eq_true] at h1
      exact ⟨of_decide_eq_true h1.1, of_decide_eq_true h1.2⟩
  | inr x =>
    obtain ⟨t, n, lo, hi⟩ := x
    rw [hs] at hb
    have hb2 : (decide (lo ≤ 0) && decide (0 ≤ hi)) = true := hb
    rw [Bool.and_eq_true] at hb2
    have b1 := of_decide_eq_true hb2.1
    have b2 := of_decide_eq_true hb2.2
    intro i
    by_cases e1 : h = 19
    · subst e1
      rw [cm4_19]
      have e : (Sum.inr (0, 6, 0, 999) : Nat ⊕ (Nat × Nat × Int × Int)) = Sum.inr (t, n, lo, hi) := hs
      cases e
      show (0 : Int) ≤ (if 0 ≤ i ∧ i < 6 then 500 else 0) ∧ (if 0 ≤ i ∧ i < 6 then (500 : Int) else 0) ≤ 999
      split <;> omega
    · by_cases e2 : h = 30
      · subst e2
        rw [cm4_30]
        have e : (Sum.inr (0, 25, 0, 999) : Nat ⊕ (Nat × Nat × Int × Int)) = Sum.inr (t, n, lo, hi) := hs
        cases e
        have := fiS_b i
        show (0 : Int) ≤ (if 0 ≤ i ∧ i < 25 then fiS i else 0) ∧ (if 0 ≤ i ∧ i < 25 then fiS i else 0) ≤ 999
        split <;> omega
      · by_cases e3 : h = 11
        · subst e3; cases hs
        · by_cases e4 : h = 12
          · subst e4; cases hs
          · rw [cm4_row e1 e2 e3 e4]
            exact ⟨b1, b2⟩
def B0 : Mem := fun j => if j = 0 then (fun i => if 0 ≤ i ∧ i < 6 then 500 else 0) else if j = 10 then (fun i => if 0 ≤ i ∧ i < 25 then fiS i else 0) else if j = 39 then (fun _ => -1) else fun _ => 0
def cm5 : Mem := fun h => if h = 53 then B0 0 else if h = 64 then B0 10 else cm4 h
theorem agr_of {T : List (Nat × Nat × Option Int)} {M M' B : Mem} (h : agr T M B) (e : ∀ q ∈ T, M' q.2.1 = M q.2.1) : agr T M' B := by
  intro q hq
  have h1 := h q hq
  obtain ⟨a, b, o⟩ := q
  have e1 : M' b = M b := e _ hq
  cases o with
  | none => show M' b = B a; rw [e1]; exact h1
  | some k => show M' b k = B a 0; rw [e1]; exact h1
theorem c_B0 : agr cTab cm5 B0 := by
  unfold cTab
  repeat (first | exact fun q hq => absurd hq List.not_mem_nil | refine List.forall_mem_cons.mpr ⟨rfl, ?_⟩)
theorem m_B0 : agr mTab cm5 B0 := by
  unfold mTab
  repeat (first | exact fun q hq => absurd hq List.not_mem_nil | refine List.forall_mem_cons.mpr ⟨rfl, ?_⟩)
theorem r_B0 : RB B0 := by
  intro j hj i
  unfold B0
  by_cases e0 : j = 0
  · subst e0
    rw [if_pos rfl]
    show (0 : Int) ≤ (if 0 ≤ i ∧ i < 6 then 500 else 0) ∧ (if 0 ≤ i ∧ i < 6 then (500 : Int) else 0) ≤ 999
    split <;> omega
  · rw [if_neg e0]
    by_cases e1 : j = 10
    · subst e1
      rw [if_pos rfl]
      have := fiS_b i
      show (0 : Int) ≤ (if 0 ≤ i ∧ i < 25 then fiS i else 0) ∧ (if 0 ≤ i ∧ i < 25 then fiS i else 0) ≤ 999
      split <;> omega
    · rw [if_neg e1]
      by_cases e2 : j = 39
      · subst e2
        rw [if_pos rfl]
        show (-1 : Int) ≤ -1 ∧ (-1 : Int) ≤ 200
        omega
      · rw [if_neg e2]
        have : ∀ j, j < 40 → (sRng j).1 ≤ 0 ∧ 0 ≤ (sRng j).2 := by decide
        exact this j hj
theorem w_B0 : WF B0 := by
  have hr : ∀ k : Int, B0 10 k = if 0 ≤ k ∧ k < 25 then fiS k else 0 := fun _ => rfl
  have z2 : ∀ k : Int, B0 2 k = 0 := fun _ => rfl
  have z5 : ∀ k : Int, B0 5 k = 0 := fun _ => rfl
  refine ⟨fun c k _ _ h1 h2 => ?_, fun k h1 h2 => ?_, by decide, by decide, by decide, by decide, by decide, by decide, fun i h1 h2 => ?_, fun i h1 h2 => ?_, fun c k _ _ _ _ => rfl, fun i _ _ => rfl, fun q _ _ => rfl, fun a j _ _ h1 h2 => ?_, fun h h1 h2 => ?_⟩
  · rw [z2] at h2; omega
  · rcases (show k = 0 ∨ k = 1 ∨ k = 2 ∨ k = 3 by omega) with rfl | rfl | rfl | rfl <;> decide
  · have h3 : i < 0 := h2
    omega
  · have h3 : i < 0 := h2
    omega
  · rw [z5] at h2; omega
  · have h3 : h < 0 := h2
    omega
theorem m_init_ok : w_m_init_L0 (fun M => ∃ B, Inv M B) 0 cm4 := by
  unfold w_m_init_L0
  intro X hX
  have key : ∀ (d i : Nat) (O : Mem), i + d = 6 → (O 53 = fun j : Int => if 0 ≤ j ∧ j < (i : Int) then 500 else 0) → (∀ h, h ≠ 53 → O h = cm4 h) → X i O := by
    intro d
    induction d with
    | zero =>
      intro i O hi h53 ho
      have e6 : i = 6 := by omega
      subst e6
      refine hX _ _ ?_
      unfold w_m_init_B0
      refine ⟨by decide, fun _ => ?_, fun h => absurd (by decide) h⟩
      refine m_first_ok fun N1 f1 f2 => ?_
      refine m_keep_ok (D := fiS) f1 fun N2 g1 g2 g3 => ?_
      have rest : ∀ h, h ≠ 53 → h ≠ 64 → h ≠ 65 → h ≠ 66 → N2 h = cm4 h := fun h a1 a2 a3 a4 => by rw [g3 h a2 a4, f2 h a3, ho h a1]
      have hh53 : N2 53 = B0 0 := by rw [g3 53 (by decide) (by decide), f2 53 (by decide), h53]; rfl
      have hh64 : N2 64 = B0 10 := by
        have e1 : N1 64 = fun _ => 0 := by rw [f2 64 (by decide), ho 64 (by decide)]; rfl
        rw [show N2 64 = rlR (N1 64) fiS from g1, e1]
        rfl
      have hc5 : ∀ h, h ≠ 65 → h ≠ 66 → N2 h = cm5 h := by
        intro h a3 a4
        unfold cm5
        by_cases b1 : h = 53
        · subst b1; rw [if_pos rfl]; exact hh53
        · rw [if_neg b1]
          by_cases b2 : h = 64
          · subst b2; rw [if_pos rfl]; exact hh64
          · rw [if_neg b2]; exact rest h b1 b2 a3 a4
      have t1 : ∀ q ∈ cTab, q.2.1 ≠ 65 ∧ q.2.1 ≠ 66 := by decide
      have t2 : ∀ q ∈ mTab, q.2.1 ≠ 65 ∧ q.2.1 ≠ 66 := by decide
      have e5 : N2 5 = fun _ => 0 := by rw [rest 5 (by decide) (by decide) (by decide) (by decide)]; rfl
      refine ⟨B0, agr_of c_B0 (fun q hq => hc5 _ (t1 q hq).1 (t1 q hq).2), agr_of m_B0 (fun q hq => hc5 _ (t2 q hq).1 (t2 q hq).2), r_B0, w_B0, fun i hi => ?_, CC.none ?_, CM.none g2⟩
      · show N2 5 6 / 2 ^ i % 2 = B0 22 i
        rw [e5]
        show (0 : Int) / 2 ^ i % 2 = 0
        simp
      · show N2 5 9 = 0
        rw [e5]
    | succ d ih =>
      intro i O hi h53 ho
      refine hX _ _ ?_
      unfold w_m_init_B0
      refine ⟨by omega, fun h => absurd h (by omega), fun h => ⟨by omega, fun M9 e9 => ?_⟩⟩
      subst e9
      refine ih (i + 1) _ (by omega) ?_ (fun h hh => by rw [mset_ne hh]; exact ho h hh)
      rw [mset_eq, h53]
      funext j
      show (if j = (i : Int) then (500 : Int) else if 0 ≤ j ∧ j < i then 500 else 0) = if 0 ≤ j ∧ j < ((i + 1 : Nat) : Int) then 500 else 0
      by_cases e2 : j = i
      · rw [if_pos e2, if_pos (by omega)]
      · rw [if_neg e2]
        by_cases e3 : 0 ≤ j ∧ j < i
        · rw [if_pos e3, if_pos (by omega)]
        · rw [if_neg e3, if_neg (by omega)]
  exact key 6 0 cm4 rfl (by
    rw [cm4_row (by decide) (by decide) (by decide) (by decide)]
    funext j
    show (0 : Int) = if 0 ≤ j ∧ j < ((0 : Nat) : Int) then 500 else 0
    rw [if_neg (by omega)]) (fun h _ => rfl)
/-! ===== the model's constructor ===== -/
abbrev hsM : List Nat := [0, 1, 2, 19, 20, 21, 22, 23, 24, 25, 26, 3, 27, 28, 29, 4, 30, 13, 14, 15, 16, 17, 18, 5, 31, 32, 33, 34, 35, 36, 37, 6, 38, 39, 40, 7, 41, 42, 43, 44, 8, 45, 46, 47, 48, 49, 9, 10, 50, 11, 51, 52, 12]
abbrev zlM : List (Nat × Nat) := [(0, 10), (11, 4), (11, 0), (0, 9), (10, 0), (0, 8), (0, 7), (8, 4), (8, 3), (8, 2), (8, 1), (8, 0), (0, 6), (7, 3), (7, 2), (7, 1), (7, 0), (0, 5), (6, 2), (6, 1), (6, 0), (0, 4), (5, 8), (5, 7), (5, 4), (5, 3), (5, 2), (5, 1), (5, 0), (0, 3), (0, 2), (0, 1), (0, 0), (1, 8), (1, 7), (1, 6), (1, 5), (1, 4), (1, 3), (1, 2), (4, 0), (1, 1), (3, 2), (3, 1), (3, 0), (1, 0), (2, 7), (2, 6), (2, 5), (2, 4), (2, 3), (2, 2), (2, 1), (2, 0)]
def xP (D : va_G) (aC : Nat → ClassId) (n0 f0 : Nat) (ad : Nat → Nat) : Array Value → State → Prop := fun a U => mP D aC n0 f0 ad hsM zlM cm3 [.ref (ad 12)] a U ∧ StA ad n0 U U.heap
def xQ (D : va_G) (aC : Nat → ClassId) (n0 : Nat) (ad : Nat → Nat) : Array Value → State → Outcome → State → Prop := fun _ st oc t =>
  (oc = .returned none ∧ ∃ (ad' : Nat → Nat) (M' : Mem), (∀ h, h ∈ 201 :: hsM ∨ 99 ≤ h → ad' h = ad h) ∧ va_P D vwCl (wld aC ad' M') t.heap ∧ Apart ad' ∧ (∀ h, h < 99 → n0 ≤ ad' h) ∧ Ok M' ∧ ∃ B, Inv M' B) ∧ va_F (nA n0) st t
theorem xP_blind {D : va_G} {aC : Nat → ClassId} {n0 f0 : Nat} {ad : Nat → Nat} : FrameBlind (xP D aC n0 f0 ad) := by
  intro a U g mk ⟨h1, h2⟩
  exact ⟨mP_blind a U g mk h1, StA.same (u := U) (U := U.calling g mk a) rfl rfl h2⟩
set_option maxRecDepth 100000 in
set_option maxHeartbeats 4000000 in
theorem mk_12 {l : Launch} {D : va_G} {aC : Nat → ClassId} {n0 f0 : Nat} {ad0 : Nat → Nat} (h201 : ad0 201 = f0) (h300 : ad0 300 = n0) : Met l yX12_init (Cond.code yX12_init cX12_init 2 none :: lw_gd) { frames := 2, cells := 46, slots := 5798, locals := 42 } (xP D aC n0 f0 ad0) (xQ D aC n0 ad0) 46 5798 (nA n0) := by
  refine Met.ofW (cc := cX12_init) (maxL := 2) (ret := none) (by decide) rfl ?_
  intro p e s m args below meth c s₁ B hml hv
  obtain ⟨⟨rfl, hP, hD, hK, hn0, hSc⟩, hSt⟩ := hv
  have hts := atoms_spec (ws := Cond.code yX12_init cX12_init 2 none :: lw_gd) B.pre
  have hC : cC p (headSpec (Cond.code yX12_init cX12_init 2 none :: lw_gd) { frames := 2, cells := 46, slots := 5798, locals := 42 }).room s m ([.ref (ad0 12)] : List Value).toArray meth c D aC n0 f0 2 cX12_init yX12_init.cls 2 42 46 5798 none :=
    ⟨B.exec, B.bytes, hml, findClass_of_methodNamed B.named, fun w hw => hts w (List.mem_cons_of_mem _ hw), hK, hn0, hSc, B.returns, B.notSynchronized, Nat.le_refl _, Nat.le_refl _, Nat.le_refl _, Nat.le_refl _⟩
  have hN : meth.name = "<init>" := (name_of_methodNamed B.named B.method).1
  have hl := lv_entry ([vR 12].map (cV ad0)) (n := 2) (by rw [wid_sl]; simp [wid, isJ])
  rw [lg_entry_eq]
  rw [lav_eq] at hl
  have body : cG p l e (headSpec (Cond.code yX12_init cX12_init 2 none :: lw_gd) { frames := 2, cells := 46, slots := 5798, locals := 42 }).room s m ([.ref (ad0 12)] : List Value).toArray below meth c 0 0 (MQ below (xQ D aC n0 ad0) ([.ref (ad0 12)] : List Value).toArray s 46 5798 (nA n0)) D aC n0 ad0 (201 :: hsM) 2 hsM zlM 0 (lav 0 [vR 12]) [] cm3 := by
    refine c_sub (L' := [(0, vR 12)]) ?_ ⟨rfl, trivial⟩
    refine c_aload_n hC dX12_init_0 rfl rfl ?_
    refine c_obj (S := []) hC kO12 kOi kOc (by decide) (by decide) dX12_init_1 ?_
    refine c_aload_n hC dX12_init_4 rfl rfl ?_
    refine c_bipush hC dX12_init_5 (by decide) ?_
    refine c_newa (h := 53) (t := 0) (N := 6) (hs' := [0, 1, 2, 19, 20, 21, 22, 23, 24, 25, 26, 3, 27, 28, 29, 4, 30, 13, 14, 15, 16, 17, 18, 5, 31, 32, 33, 34, 35, 36, 37, 6, 38, 39, 40, 7, 41, 42, 43, 44, 8, 45, 46, 47, 48, 49, 9, 10, 50, 11, 51, 52, 12, 53]) (cells' := 1) (slots' := 6) hC kA_int (by decide) rfl rfl (fun _ => rfl) (by decide) (by decide) (by decide +kernel) rfl rfl rfl (by decide) (by decide) dX12_init_7 ?_
    refine c_putF hC hN 0 52 rfl rfl (by decide) kf12_7 rfl rfl dX12_init_9 ?_
    refine c_aload_n hC dX12_init_12 rfl rfl ?_
    refine c_bipush hC dX12_init_13 (by decide) ?_
    refine c_newa (h := 54) (t := 0) (N := 6) (hs' := [0, 1, 2, 19, 20, 21, 22, 23, 24, 25, 26, 3, 27, 28, 29, 4, 30, 13, 14, 15, 16, 17, 18, 5, 31, 32, 33, 34, 35, 36, 37, 6, 38, 39, 40, 7, 41, 42, 43, 44, 8, 45, 46, 47, 48, 49, 9, 10, 50, 11, 51, 52, 12, 53, 54]) (cells' := 2) (slots' := 12) hC kA_int (by decide) rfl rfl (fun _ => rfl) (by decide) (by decide) (by decide +kernel) rfl rfl rfl (by decide) (by decide) dX12_init_15 ?_
    refine c_putF hC hN 1 52 rfl rfl (by decide) kf12_13 rfl rfl dX12_init_17 ?_
    refine c_aload_n hC dX12_init_20 rfl rfl ?_
    refine c_bipush hC dX12_init_21 (by decide) ?_
    refine c_newa (h := 55) (t := 0) (N := 6) (hs' := [0, 1, 2, 19, 20, 21, 22, 23, 24, 25, 26, 3, 27, 28, 29, 4, 30, 13, 14, 15, 16, 17, 18, 5, 31, 32, 33, 34, 35, 36, 37, 6, 38, 39, 40, 7, 41, 42, 43, 44, 8, 45, 46, 47, 48, 49, 9, 10, 50, 11, 51, 52, 12, 53, 54, 55]) (cells' := 3) (slots' := 18) hC kA_int (by decide) rfl rfl (fun _ => rfl) (by decide) (by decide) (by decide +kernel) rfl rfl rfl (by decide) (by decide) dX12_init_23 ?_
    refine c_putF hC hN 2 52 rfl rfl (by decide) kf12_16 rfl rfl dX12_init_25 ?_
    refine c_aload_n hC dX12_init_28 rfl rfl ?_
    refine c_bipush hC dX12_init_29 (by decide) ?_
    refine c_newa (h := 56) (t := 0) (N := 36) (hs' := [0, 1, 2, 19, 20, 21, 22, 23, 24, 25, 26, 3, 27, 28, 29, 4, 30, 13, 14, 15, 16, 17, 18, 5, 31, 32, 33, 34, 35, 36, 37, 6, 38, 39, 40, 7, 41, 42, 43, 44, 8, 45, 46, 47, 48, 49, 9, 10, 50, 11, 51, 52, 12, 53, 54, 55, 56]) (cells' := 4) (slots' := 54) hC kA_int (by decide) rfl rfl (fun _ => rfl) (by decide) (by decide) (by decide +kernel) rfl rfl rfl (by decide) (by decide) dX12_init_31 ?_
    refine c_putF hC hN 3 52 rfl rfl (by decide) kf12_19 rfl rfl dX12_init_33 ?_
    refine c_aload_n hC dX12_init_36 rfl rfl ?_
    refine c_bipush hC dX12_init_37 (by decide) ?_
    refine c_newa (h := 57) (t := 0) (N := 36) (hs' := [0, 1, 2, 19, 20, 21, 22, 23, 24, 25, 26, 3, 27, 28, 29, 4, 30, 13, 14, 15, 16, 17, 18, 5, 31, 32, 33, 34, 35, 36, 37, 6, 38, 39, 40, 7, 41, 42, 43, 44, 8, 45, 46, 47, 48, 49, 9, 10, 50, 11, 51, 52, 12, 53, 54, 55, 56, 57]) (cells' := 5) (slots' := 90) hC kA_int (by decide) rfl rfl (fun _ => rfl) (by decide) (by decide) (by decide +kernel) rfl rfl rfl (by decide) (by decide) dX12_init_39 ?_
    refine c_putF hC hN 4 52 rfl rfl (by decide) kf12_22 rfl rfl dX12_init_41 ?_
    refine c_aload_n hC dX12_init_44 rfl rfl ?_
    refine c_bipush hC dX12_init_45 (by decide) ?_
    refine c_newa (h := 58) (t := 0) (N := 36) (hs' := [0, 1, 2, 19, 20, 21, 22, 23, 24, 25, 26, 3, 27, 28, 29, 4, 30, 13, 14, 15, 16, 17, 18, 5, 31, 32, 33, 34, 35, 36, 37, 6, 38, 39, 40, 7, 41, 42, 43, 44, 8, 45, 46, 47, 48, 49, 9, 10, 50, 11, 51, 52, 12, 53, 54, 55, 56, 57, 58]) (cells' := 6) (slots' := 126) hC kA_int (by decide) rfl rfl (fun _ => rfl) (by decide) (by decide) (by decide +kernel) rfl rfl rfl (by decide) (by decide) dX12_init_47 ?_
    refine c_putF hC hN 5 52 rfl rfl (by decide) kf12_25 rfl rfl dX12_init_49 ?_
    refine c_aload_n hC dX12_init_52 rfl rfl ?_
    refine c_bipush hC dX12_init_53 (by decide) ?_
    refine c_newa (h := 59) (t := 0) (N := 108) (hs' := [0, 1, 2, 19, 20, 21, 22, 23, 24, 25, 26, 3, 27, 28, 29, 4, 30, 13, 14, 15, 16, 17, 18, 5, 31, 32, 33, 34, 35, 36, 37, 6, 38, 39, 40, 7, 41, 42, 43, 44, 8, 45, 46, 47, 48, 49, 9, 10, 50, 11, 51, 52, 12, 53, 54, 55, 56, 57, 58, 59]) (cells' := 7) (slots' := 234) hC kA_int (by decide) rfl rfl (fun _ => rfl) (by decide) (by decide) (by decide +kernel) rfl rfl rfl (by decide) (by decide) dX12_init_55 ?_
    refine c_putF hC hN 6 52 rfl rfl (by decide) kf12_28 rfl rfl dX12_init_57 ?_
    refine c_aload_n hC dX12_init_60 rfl rfl ?_
    refine c_bipush hC dX12_init_61 (by decide) ?_
    refine c_newa (h := 60) (t := 0) (N := 108) (hs' := [0, 1, 2, 19, 20, 21, 22, 23, 24, 25, 26, 3, 27, 28, 29, 4, 30, 13, 14, 15, 16, 17, 18, 5, 31, 32, 33, 34, 35, 36, 37, 6, 38, 39, 40, 7, 41, 42, 43, 44, 8, 45, 46, 47, 48, 49, 9, 10, 50, 11, 51, 52, 12, 53, 54, 55, 56, 57, 58, 59, 60]) (cells' := 8) (slots' := 342) hC kA_int (by decide) rfl rfl (fun _ => rfl) (by decide) (by decide) (by decide +kernel) rfl rfl rfl (by decide) (by decide) dX12_init_63 ?_
    refine c_putF hC hN 7 52 rfl rfl (by decide) kf12_31 rfl rfl dX12_init_65 ?_
    refine c_aload_n hC dX12_init_68 rfl rfl ?_
    refine c_bipush hC dX12_init_69 (by decide) ?_
    refine c_newa (h := 61) (t := 0) (N := 6) (hs' := [0, 1, 2, 19, 20, 21, 22, 23, 24, 25, 26, 3, 27, 28, 29, 4, 30, 13, 14, 15, 16, 17, 18, 5, 31, 32, 33, 34, 35, 36, 37, 6, 38, 39, 40, 7, 41, 42, 43, 44, 8, 45, 46, 47, 48, 49, 9, 10, 50, 11, 51, 52, 12, 53, 54, 55, 56, 57, 58, 59, 60, 61]) (cells' := 9) (slots' := 348) hC kA_int (by decide) rfl rfl (fun _ => rfl) (by decide) (by decide) (by decide +kernel) rfl rfl rfl (by decide) (by decide) dX12_init_71 ?_
    refine c_putF hC hN 9 52 rfl rfl (by decide) kf12_34 rfl rfl dX12_init_73 ?_
    refine c_aload_n hC dX12_init_76 rfl rfl ?_
    refine c_bipush hC dX12_init_77 (by decide) ?_
    refine c_newa (h := 62) (t := 0) (N := 6) (hs' := [0, 1, 2, 19, 20, 21, 22, 23, 24, 25, 26, 3, 27, 28, 29, 4, 30, 13, 14, 15, 16, 17, 18, 5, 31, 32, 33, 34, 35, 36, 37, 6, 38, 39, 40, 7, 41, 42, 43, 44, 8, 45, 46, 47, 48, 49, 9, 10, 50, 11, 51, 52, 12, 53, 54, 55, 56, 57, 58, 59, 60, 61, 62]) (cells' := 10) (slots' := 354) hC kA_int (by decide) rfl rfl (fun _ => rfl) (by decide) (by decide) (by decide +kernel) rfl rfl rfl (by decide) (by decide) dX12_init_79 ?_
    refine c_putF hC hN 10 52 rfl rfl (by decide) kf12_37 rfl rfl dX12_init_81 ?_
    refine c_aload_n hC dX12_init_84 rfl rfl ?_
    refine c_sipush hC dX12_init_85 (by decide) ?_
    refine c_newa (h := 63) (t := 0) (N := 180) (hs' := [0, 1, 2, 19, 20, 21, 22, 23, 24, 25, 26, 3, 27, 28, 29, 4, 30, 13, 14, 15, 16, 17, 18, 5, 31, 32, 33, 34, 35, 36, 37, 6, 38, 39, 40, 7, 41, 42, 43, 44, 8, 45, 46, 47, 48, 49, 9, 10, 50, 11, 51, 52, 12, 53, 54, 55, 56, 57, 58, 59, 60, 61, 62, 63]) (cells' := 11) (slots' := 534) hC kA_int (by decide) rfl rfl (fun _ => rfl) (by decide) (by decide) (by decide +kernel) rfl rfl rfl (by decide) (by decide) dX12_init_88 ?_
    refine c_putF hC hN 11 52 rfl rfl (by decide) kf12_40 rfl rfl dX12_init_90 ?_
    refine c_aload_n hC dX12_init_93 rfl rfl ?_
    refine c_bipush hC dX12_init_94 (by decide) ?_
    refine c_newa (h := 64) (t := 0) (N := 25) (hs' := [0, 1, 2, 19, 20, 21, 22, 23, 24, 25, 26, 3, 27, 28, 29, 4, 30, 13, 14, 15, 16, 17, 18, 5, 31, 32, 33, 34, 35, 36, 37, 6, 38, 39, 40, 7, 41, 42, 43, 44, 8, 45, 46, 47, 48, 49, 9, 10, 50, 11, 51, 52, 12, 53, 54, 55, 56, 57, 58, 59, 60, 61, 62, 63, 64]) (cells' := 12) (slots' := 559) hC kA_int (by decide) rfl rfl (fun _ => rfl) (by decide) (by decide) (by decide +kernel) rfl rfl rfl (by decide) (by decide) dX12_init_96 ?_
    refine c_putF hC hN 12 52 rfl rfl (by decide) kf12_43 rfl rfl dX12_init_98 ?_
    refine c_aload_n hC dX12_init_101 rfl rfl ?_
    refine c_bipush hC dX12_init_102 (by decide) ?_
    refine c_newa (h := 65) (t := 0) (N := 25) (hs' := [0, 1, 2, 19, 20, 21, 22, 23, 24, 25, 26, 3, 27, 28, 29, 4, 30, 13, 14, 15, 16, 17, 18, 5, 31, 32, 33, 34, 35, 36, 37, 6, 38, 39, 40, 7, 41, 42, 43, 44, 8, 45, 46, 47, 48, 49, 9, 10, 50, 11, 51, 52, 12, 53, 54, 55, 56, 57, 58, 59, 60, 61, 62, 63, 64, 65]) (cells' := 13) (slots' := 584) hC kA_int (by decide) rfl rfl (fun _ => rfl) (by decide) (by decide) (by decide +kernel) rfl rfl rfl (by decide) (by decide) dX12_init_104 ?_
    refine c_putF hC hN 13 52 rfl rfl (by decide) kf12_46 rfl rfl dX12_init_106 ?_
    refine c_aload_n hC dX12_init_109 rfl rfl ?_
    refine c_bipush hC dX12_init_110 (by decide) ?_
    refine c_newa (h := 66) (t := 1) (N := 6) (hs' := [0, 1, 2, 19, 20, 21, 22, 23, 24, 25, 26, 3, 27, 28, 29, 4, 30, 13, 14, 15, 16, 17, 18, 5, 31, 32, 33, 34, 35, 36, 37, 6, 38, 39, 40, 7, 41, 42, 43, 44, 8, 45, 46, 47, 48, 49, 9, 10, 50, 11, 51, 52, 12, 53, 54, 55, 56, 57, 58, 59, 60, 61, 62, 63, 64, 65, 66]) (cells' := 14) (slots' := 590) hC kA_boolean (by decide) rfl rfl (fun _ => rfl) (by decide) (by decide) (by decide +kernel) rfl rfl rfl (by decide) (by decide) dX12_init_112 ?_
    refine c_putF hC hN 14 52 rfl rfl (by decide) kf12_49 rfl rfl dX12_init_114 ?_
    refine c_aload_n hC dX12_init_117 rfl rfl ?_
    refine c_bipush hC dX12_init_118 (by decide) ?_
    refine c_newa (h := 67) (t := 0) (N := 6) (hs' := [0, 1, 2, 19, 20, 21, 22, 23, 24, 25, 26, 3, 27, 28, 29, 4, 30, 13, 14, 15, 16, 17, 18, 5, 31, 32, 33, 34, 35, 36, 37, 6, 38, 39, 40, 7, 41, 42, 43, 44, 8, 45, 46, 47, 48, 49, 9, 10, 50, 11, 51, 52, 12, 53, 54, 55, 56, 57, 58, 59, 60, 61, 62, 63, 64, 65, 66, 67]) (cells' := 15) (slots' := 596) hC kA_int (by decide) rfl rfl (fun _ => rfl) (by decide) (by decide) (by decide +kernel) rfl rfl rfl (by decide) (by decide) dX12_init_120 ?_
    refine c_putF hC hN 15 52 rfl rfl (by decide) kf12_53 rfl rfl dX12_init_122 ?_
    refine c_aload_n hC dX12_init_125 rfl rfl ?_
    refine c_bipush hC dX12_init_126 (by decide) ?_
    refine c_newa (h := 68) (t := 0) (N := 6) (hs' := [0, 1, 2, 19, 20, 21, 22, 23, 24, 25, 26, 3, 27, 28, 29, 4, 30, 13, 14, 15, 16, 17, 18, 5, 31, 32, 33, 34, 35, 36, 37, 6, 38, 39, 40, 7, 41, 42, 43, 44, 8, 45, 46, 47, 48, 49, 9, 10, 50, 11, 51, 52, 12, 53, 54, 55, 56, 57, 58, 59, 60, 61, 62, 63, 64, 65, 66, 67, 68]) (cells' := 16) (slots' := 602) hC kA_int (by decide) rfl rfl (fun _ => rfl) (by decide) (by decide) (by decide +kernel) rfl rfl rfl (by decide) (by decide) dX12_init_128 ?_
    refine c_putF hC hN 16 52 rfl rfl (by decide) kf12_56 rfl rfl dX12_init_130 ?_
    refine c_aload_n hC dX12_init_133 rfl rfl ?_
    refine c_bipush hC dX12_init_134 (by decide) ?_
    refine c_newa (h := 69) (t := 0) (N := 6) (hs' := [0, 1, 2, 19, 20, 21, 22, 23, 24, 25, 26, 3, 27, 28, 29, 4, 30, 13, 14, 15, 16, 17, 18, 5, 31, 32, 33, 34, 35, 36, 37, 6, 38, 39, 40, 7, 41, 42, 43, 44, 8, 45, 46, 47, 48, 49, 9, 10, 50, 11, 51, 52, 12, 53, 54, 55, 56, 57, 58, 59, 60, 61, 62, 63, 64, 65, 66, 67, 68, 69]) (cells' := 17) (slots' := 608) hC kA_int (by decide) rfl rfl (fun _ => rfl) (by decide) (by decide) (by decide +kernel) rfl rfl rfl (by decide) (by decide) dX12_init_136 ?_
    refine c_putF hC hN 18 52 rfl rfl (by decide) kf12_59 rfl rfl dX12_init_138 ?_
    refine c_aload_n hC dX12_init_141 rfl rfl ?_
    refine c_bipush hC dX12_init_142 (by decide) ?_
    refine c_newa (h := 70) (t := 0) (N := 6) (hs' := [0, 1, 2, 19, 20, 21, 22, 23, 24, 25, 26, 3, 27, 28, 29, 4, 30, 13, 14, 15, 16, 17, 18, 5, 31, 32, 33, 34, 35, 36, 37, 6, 38, 39, 40, 7, 41, 42, 43, 44, 8, 45, 46, 47, 48, 49, 9, 10, 50, 11, 51, 52, 12, 53, 54, 55, 56, 57, 58, 59, 60, 61, 62, 63, 64, 65, 66, 67, 68, 69, 70]) (cells' := 18) (slots' := 614) hC kA_int (by decide) rfl rfl (fun _ => rfl) (by decide) (by decide) (by decide +kernel) rfl rfl rfl (by decide) (by decide) dX12_init_144 ?_
    refine c_putF hC hN 19 52 rfl rfl (by decide) kf12_62 rfl rfl dX12_init_146 ?_
    refine c_aload_n hC dX12_init_149 rfl rfl ?_
    refine c_bipush hC dX12_init_150 (by decide) ?_
    refine c_newa (h := 71) (t := 0) (N := 6) (hs' := [0, 1, 2, 19, 20, 21, 22, 23, 24, 25, 26, 3, 27, 28, 29, 4, 30, 13, 14, 15, 16, 17, 18, 5, 31, 32, 33, 34, 35, 36, 37, 6, 38, 39, 40, 7, 41, 42, 43, 44, 8, 45, 46, 47, 48, 49, 9, 10, 50, 11, 51, 52, 12, 53, 54, 55, 56, 57, 58, 59, 60, 61, 62, 63, 64, 65, 66, 67, 68, 69, 70, 71]) (cells' := 19) (slots' := 620) hC kA_int (by decide) rfl rfl (fun _ => rfl) (by decide) (by decide) (by decide +kernel) rfl rfl rfl (by decide) (by decide) dX12_init_152 ?_
    refine c_putF hC hN 20 52 rfl rfl (by decide) kf12_65 rfl rfl dX12_init_154 ?_
    refine c_aload_n hC dX12_init_157 rfl rfl ?_
    refine c_bipush hC dX12_init_158 (by decide) ?_
    refine c_newa (h := 72) (t := 0) (N := 6) (hs' := [0, 1, 2, 19, 20, 21, 22, 23, 24, 25, 26, 3, 27, 28, 29, 4, 30, 13, 14, 15, 16, 17, 18, 5, 31, 32, 33, 34, 35, 36, 37, 6, 38, 39, 40, 7, 41, 42, 43, 44, 8, 45, 46, 47, 48, 49, 9, 10, 50, 11, 51, 52, 12, 53, 54, 55, 56, 57, 58, 59, 60, 61, 62, 63, 64, 65, 66, 67, 68, 69, 70, 71, 72]) (cells' := 20) (slots' := 626) hC kA_int (by decide) rfl rfl (fun _ => rfl) (by decide) (by decide) (by decide +kernel) rfl rfl rfl (by decide) (by decide) dX12_init_160 ?_
    refine c_putF hC hN 21 52 rfl rfl (by decide) kf12_68 rfl rfl dX12_init_162 ?_
    refine c_aload_n hC dX12_init_165 rfl rfl ?_
    refine c_bipush hC dX12_init_166 (by decide) ?_
    refine c_newa (h := 73) (t := 1) (N := 6) (hs' := [0, 1, 2, 19, 20, 21, 22, 23, 24, 25, 26, 3, 27, 28, 29, 4, 30, 13, 14, 15, 16, 17, 18, 5, 31, 32, 33, 34, 35, 36, 37, 6, 38, 39, 40, 7, 41, 42, 43, 44, 8, 45, 46, 47, 48, 49, 9, 10, 50, 11, 51, 52, 12, 53, 54, 55, 56, 57, 58, 59, 60, 61, 62, 63, 64, 65, 66, 67, 68, 69, 70, 71, 72, 73]) (cells' := 21) (slots' := 632) hC kA_boolean (by decide) rfl rfl (fun _ => rfl) (by decide) (by decide) (by decide +kernel) rfl rfl rfl (by decide) (by decide) dX12_init_168 ?_
    refine c_putF hC hN 24 52 rfl rfl (by decide) kf12_71 rfl rfl dX12_init_170 ?_
    refine c_aload_n hC dX12_init_173 rfl rfl ?_
    refine c_bipush hC dX12_init_174 (by decide) ?_
    refine c_newa (h := 74) (t := 0) (N := 6) (hs' := [0, 1, 2, 19, 20, 21, 22, 23, 24, 25, 26, 3, 27, 28, 29, 4, 30, 13, 14, 15, 16, 17, 18, 5, 31, 32, 33, 34, 35, 36, 37, 6, 38, 39, 40, 7, 41, 42, 43, 44, 8, 45, 46, 47, 48, 49, 9, 10, 50, 11, 51, 52, 12, 53, 54, 55, 56, 57, 58, 59, 60, 61, 62, 63, 64, 65, 66, 67, 68, 69, 70, 71, 72, 73, 74]) (cells' := 22) (slots' := 638) hC kA_int (by decide) rfl rfl (fun _ => rfl) (by decide) (by decide) (by decide +kernel) rfl rfl rfl (by decide) (by decide) dX12_init_176 ?_
    refine c_putF hC hN 25 52 rfl rfl (by decide) kf12_74 rfl rfl dX12_init_178 ?_
    refine c_aload_n hC dX12_init_181 rfl rfl ?_
    refine c_bipush hC dX12_init_182 (by decide) ?_
    refine c_newa (h := 75) (t := 0) (N := 16) (hs' := [0, 1, 2, 19, 20, 21, 22, 23, 24, 25, 26, 3, 27, 28, 29, 4, 30, 13, 14, 15, 16, 17, 18, 5, 31, 32, 33, 34, 35, 36, 37, 6, 38, 39, 40, 7, 41, 42, 43, 44, 8, 45, 46, 47, 48, 49, 9, 10, 50, 11, 51, 52, 12, 53, 54, 55, 56, 57, 58, 59, 60, 61, 62, 63, 64, 65, 66, 67, 68, 69, 70, 71, 72, 73, 74, 75]) (cells' := 23) (slots' := 654) hC kA_int (by decide) rfl rfl (fun _ => rfl) (by decide) (by decide) (by decide +kernel) rfl rfl rfl (by decide) (by decide) dX12_init_184 ?_
    refine c_putF hC hN 27 52 rfl rfl (by decide) kf12_77 rfl rfl dX12_init_186 ?_
    refine c_aload_n hC dX12_init_189 rfl rfl ?_
    refine c_bipush hC dX12_init_190 (by decide) ?_
    refine c_newa (h := 76) (t := 0) (N := 16) (hs' := [0, 1, 2, 19, 20, 21, 22, 23, 24, 25, 26, 3, 27, 28, 29, 4, 30, 13, 14, 15, 16, 17, 18, 5, 31, 32, 33, 34, 35, 36, 37, 6, 38, 39, 40, 7, 41, 42, 43, 44, 8, 45, 46, 47, 48, 49, 9, 10, 50, 11, 51, 52, 12, 53, 54, 55, 56, 57, 58, 59, 60, 61, 62, 63, 64, 65, 66, 67, 68, 69, 70, 71, 72, 73, 74, 75, 76]) (cells' := 24) (slots' := 670) hC kA_int (by decide) rfl rfl (fun _ => rfl) (by decide) (by decide) (by decide +kernel) rfl rfl rfl (by decide) (by decide) dX12_init_192 ?_
    refine c_putF hC hN 28 52 rfl rfl (by decide) kf12_80 rfl rfl dX12_init_194 ?_
    refine c_aload_n hC dX12_init_197 rfl rfl ?_
    refine c_bipush hC dX12_init_198 (by decide) ?_
    refine c_newa (h := 77) (t := 0) (N := 16) (hs' := [0, 1, 2, 19, 20, 21, 22, 23, 24, 25, 26, 3, 27, 28, 29, 4, 30, 13, 14, 15, 16, 17, 18, 5, 31, 32, 33, 34, 35, 36, 37, 6, 38, 39, 40, 7, 41, 42, 43, 44, 8, 45, 46, 47, 48, 49, 9, 10, 50, 11, 51, 52, 12, 53, 54, 55, 56, 57, 58, 59, 60, 61, 62, 63, 64, 65, 66, 67, 68, 69, 70, 71, 72, 73, 74, 75, 76, 77]) (cells' := 25) (slots' := 686) hC kA_int (by decide) rfl rfl (fun _ => rfl) (by decide) (by decide) (by decide +kernel) rfl rfl rfl (by decide) (by decide) dX12_init_200 ?_
    refine c_putF hC hN 29 52 rfl rfl (by decide) kf12_83 rfl rfl dX12_init_202 ?_
    refine c_aload_n hC dX12_init_205 rfl rfl ?_
    refine c_bipush hC dX12_init_206 (by decide) ?_
    refine c_newa (h := 78) (t := 0) (N := 16) (hs' := [0, 1, 2, 19, 20, 21, 22, 23, 24, 25, 26, 3, 27, 28, 29, 4, 30, 13, 14, 15, 16, 17, 18, 5, 31, 32, 33, 34, 35, 36, 37, 6, 38, 39, 40, 7, 41, 42, 43, 44, 8, 45, 46, 47, 48, 49, 9, 10, 50, 11, 51, 52, 12, 53, 54, 55, 56, 57, 58, 59, 60, 61, 62, 63, 64, 65, 66, 67, 68, 69, 70, 71, 72, 73, 74, 75, 76, 77, 78]) (cells' := 26) (slots' := 702) hC kA_int (by decide) rfl rfl (fun _ => rfl) (by decide) (by decide) (by decide +kernel) rfl rfl rfl (by decide) (by decide) dX12_init_208 ?_
    refine c_putF hC hN 30 52 rfl rfl (by decide) kf12_86 rfl rfl dX12_init_210 ?_
    refine c_aload_n hC dX12_init_213 rfl rfl ?_
    refine c_bipush hC dX12_init_214 (by decide) ?_
    refine c_newa (h := 79) (t := 0) (N := 16) (hs' := [0, 1, 2, 19, 20, 21, 22, 23, 24, 25, 26, 3, 27, 28, 29, 4, 30, 13, 14, 15, 16, 17, 18, 5, 31, 32, 33, 34, 35, 36, 37, 6, 38, 39, 40, 7, 41, 42, 43, 44, 8, 45, 46, 47, 48, 49, 9, 10, 50, 11, 51, 52, 12, 53, 54, 55, 56, 57, 58, 59, 60, 61, 62, 63, 64, 65, 66, 67, 68, 69, 70, 71, 72, 73, 74, 75, 76, 77, 78, 79]) (cells' := 27) (slots' := 718) hC kA_int (by decide) rfl rfl (fun _ => rfl) (by decide) (by decide) (by decide +kernel) rfl rfl rfl (by decide) (by decide) dX12_init_216 ?_
    refine c_putF hC hN 31 52 rfl rfl (by decide) kf12_89 rfl rfl dX12_init_218 ?_
    refine c_aload_n hC dX12_init_221 rfl rfl ?_
    refine c_bipush hC dX12_init_222 (by decide) ?_
    refine c_newa (h := 80) (t := 1) (N := 16) (hs' := [0, 1, 2, 19, 20, 21, 22, 23, 24, 25, 26, 3, 27, 28, 29, 4, 30, 13, 14, 15, 16, 17, 18, 5, 31, 32, 33, 34, 35, 36, 37, 6, 38, 39, 40, 7, 41, 42, 43, 44, 8, 45, 46, 47, 48, 49, 9, 10, 50, 11, 51, 52, 12, 53, 54, 55, 56, 57, 58, 59, 60, 61, 62, 63, 64, 65, 66, 67, 68, 69, 70, 71, 72, 73, 74, 75, 76, 77, 78, 79, 80]) (cells' := 28) (slots' := 734) hC kA_boolean (by decide) rfl rfl (fun _ => rfl) (by decide) (by decide) (by decide +kernel) rfl rfl rfl (by decide) (by decide) dX12_init_224 ?_
    refine c_putF hC hN 32 52 rfl rfl (by decide) kf12_92 rfl rfl dX12_init_226 ?_
    refine c_aload_n hC dX12_init_229 rfl rfl ?_
    refine c_bipush hC dX12_init_230 (by decide) ?_
    refine c_newa (h := 81) (t := 0) (N := 6) (hs' := [0, 1, 2, 19, 20, 21, 22, 23, 24, 25, 26, 3, 27, 28, 29, 4, 30, 13, 14, 15, 16, 17, 18, 5, 31, 32, 33, 34, 35, 36, 37, 6, 38, 39, 40, 7, 41, 42, 43, 44, 8, 45, 46, 47, 48, 49, 9, 10, 50, 11, 51, 52, 12, 53, 54, 55, 56, 57, 58, 59, 60, 61, 62, 63, 64, 65, 66, 67, 68, 69, 70, 71, 72, 73, 74, 75, 76, 77, 78, 79, 80, 81]) (cells' := 29) (slots' := 740) hC kA_int (by decide) rfl rfl (fun _ => rfl) (by decide) (by decide) (by decide +kernel) rfl rfl rfl (by decide) (by decide) dX12_init_232 ?_
    refine c_putF hC hN 33 52 rfl rfl (by decide) kf12_95 rfl rfl dX12_init_234 ?_
    refine c_aload_n hC dX12_init_237 rfl rfl ?_
    refine c_sipush hC dX12_init_238 (by decide) ?_
    refine c_newa (h := 82) (t := 1) (N := 4374) (hs' := [0, 1, 2, 19, 20, 21, 22, 23, 24, 25, 26, 3, 27, 28, 29, 4, 30, 13, 14, 15, 16, 17, 18, 5, 31, 32, 33, 34, 35, 36, 37, 6, 38, 39, 40, 7, 41, 42, 43, 44, 8, 45, 46, 47, 48, 49, 9, 10, 50, 11, 51, 52, 12, 53, 54, 55, 56, 57, 58, 59, 60, 61, 62, 63, 64, 65, 66, 67, 68, 69, 70, 71, 72, 73, 74, 75, 76, 77, 78, 79, 80, 81, 82]) (cells' := 30) (slots' := 5114) hC kA_boolean (by decide) rfl rfl (fun _ => rfl) (by decide) (by decide) (by decide +kernel) rfl rfl rfl (by decide) (by decide) dX12_init_241 ?_
    refine c_putF hC hN 34 52 rfl rfl (by decide) kf12_98 rfl rfl dX12_init_243 ?_
    refine c_aload_n hC dX12_init_246 rfl rfl ?_
    refine c_bipush hC dX12_init_247 (by decide) ?_
    refine c_newa (h := 83) (t := 0) (N := 8) (hs' := [0, 1, 2, 19, 20, 21, 22, 23, 24, 25, 26, 3, 27, 28, 29, 4, 30, 13, 14, 15, 16, 17, 18, 5, 31, 32, 33, 34, 35, 36, 37, 6, 38, 39, 40, 7, 41, 42, 43, 44, 8, 45, 46, 47, 48, 49, 9, 10, 50, 11, 51, 52, 12, 53, 54, 55, 56, 57, 58, 59, 60, 61, 62, 63, 64, 65, 66, 67, 68, 69, 70, 71, 72, 73, 74, 75, 76, 77, 78, 79, 80, 81, 82, 83]) (cells' := 31) (slots' := 5122) hC kA_int (by decide) rfl rfl (fun _ => rfl) (by decide) (by decide) (by decide +kernel) rfl rfl rfl (by decide) (by decide) dX12_init_249 ?_
    refine c_putF hC hN 40 52 rfl rfl (by decide) kf12_101 rfl rfl dX12_init_251 ?_
    refine c_aload_n hC dX12_init_254 rfl rfl ?_
    refine c_bipush hC dX12_init_255 (by decide) ?_
    refine c_newa (h := 84) (t := 0) (N := 8) (hs' := [0, 1, 2, 19, 20, 21, 22, 23, 24, 25, 26, 3, 27, 28, 29, 4, 30, 13, 14, 15, 16, 17, 18, 5, 31, 32, 33, 34, 35, 36, 37, 6, 38, 39, 40, 7, 41, 42, 43, 44, 8, 45, 46, 47, 48, 49, 9, 10, 50, 11, 51, 52, 12, 53, 54, 55, 56, 57, 58, 59, 60, 61, 62, 63, 64, 65, 66, 67, 68, 69, 70, 71, 72, 73, 74, 75, 76, 77, 78, 79, 80, 81, 82, 83, 84]) (cells' := 32) (slots' := 5130) hC kA_int (by decide) rfl rfl (fun _ => rfl) (by decide) (by decide) (by decide +kernel) rfl rfl rfl (by decide) (by decide) dX12_init_257 ?_
    refine c_putF hC hN 41 52 rfl rfl (by decide) kf12_104 rfl rfl dX12_init_259 ?_
    refine c_aload_n hC dX12_init_262 rfl rfl ?_
    refine c_bipush hC dX12_init_263 (by decide) ?_
    refine c_newa (h := 85) (t := 0) (N := 8) (hs' := [0, 1, 2, 19, 20, 21, 22, 23, 24, 25, 26, 3, 27, 28, 29, 4, 30, 13, 14, 15, 16, 17, 18, 5, 31, 32, 33, 34, 35, 36, 37, 6, 38, 39, 40, 7, 41, 42, 43, 44, 8, 45, 46, 47, 48, 49, 9, 10, 50, 11, 51, 52, 12, 53, 54, 55, 56, 57, 58, 59, 60, 61, 62, 63, 64, 65, 66, 67, 68, 69, 70, 71, 72, 73, 74, 75, 76, 77, 78, 79, 80, 81, 82, 83, 84, 85]) (cells' := 33) (slots' := 5138) hC kA_int (by decide) rfl rfl (fun _ => rfl) (by decide) (by decide) (by decide +kernel) rfl rfl rfl (by decide) (by decide) dX12_init_265 ?_
    refine c_putF hC hN 42 52 rfl rfl (by decide) kf12_107 rfl rfl dX12_init_267 ?_
    refine c_aload_n hC dX12_init_270 rfl rfl ?_
    refine c_bipush hC dX12_init_271 (by decide) ?_
    refine c_newa (h := 86) (t := 0) (N := 8) (hs' := [0, 1, 2, 19, 20, 21, 22, 23, 24, 25, 26, 3, 27, 28, 29, 4, 30, 13, 14, 15, 16, 17, 18, 5, 31, 32, 33, 34, 35, 36, 37, 6, 38, 39, 40, 7, 41, 42, 43, 44, 8, 45, 46, 47, 48, 49, 9, 10, 50, 11, 51, 52, 12, 53, 54, 55, 56, 57, 58, 59, 60, 61, 62, 63, 64, 65, 66, 67, 68, 69, 70, 71, 72, 73, 74, 75, 76, 77, 78, 79, 80, 81, 82, 83, 84, 85, 86]) (cells' := 34) (slots' := 5146) hC kA_int (by decide) rfl rfl (fun _ => rfl) (by decide) (by decide) (by decide +kernel) rfl rfl rfl (by decide) (by decide) dX12_init_273 ?_
    refine c_putF hC hN 44 52 rfl rfl (by decide) kf12_110 rfl rfl dX12_init_275 ?_
    refine c_aload_n hC dX12_init_278 rfl rfl ?_
    refine c_bipush hC dX12_init_279 (by decide) ?_
    refine c_newa (h := 87) (t := 0) (N := 8) (hs' := [0, 1, 2, 19, 20, 21, 22, 23, 24, 25, 26, 3, 27, 28, 29, 4, 30, 13, 14, 15, 16, 17, 18, 5, 31, 32, 33, 34, 35, 36, 37, 6, 38, 39, 40, 7, 41, 42, 43, 44, 8, 45, 46, 47, 48, 49, 9, 10, 50, 11, 51, 52, 12, 53, 54, 55, 56, 57, 58, 59, 60, 61, 62, 63, 64, 65, 66, 67, 68, 69, 70, 71, 72, 73, 74, 75, 76, 77, 78, 79, 80, 81, 82, 83, 84, 85, 86, 87]) (cells' := 35) (slots' := 5154) hC kA_int (by decide) rfl rfl (fun _ => rfl) (by decide) (by decide) (by decide +kernel) rfl rfl rfl (by decide) (by decide) dX12_init_281 ?_
    refine c_putF hC hN 45 52 rfl rfl (by decide) kf12_113 rfl rfl dX12_init_283 ?_
    refine c_aload_n hC dX12_init_286 rfl rfl ?_
    refine c_bipush hC dX12_init_287 (by decide) ?_
    refine c_newa (h := 88) (t := 0) (N := 8) (hs' := [0, 1, 2, 19, 20, 21, 22, 23, 24, 25, 26, 3, 27, 28, 29, 4, 30, 13, 14, 15, 16, 17, 18, 5, 31, 32, 33, 34, 35, 36, 37, 6, 38, 39, 40, 7, 41, 42, 43, 44, 8, 45, 46, 47, 48, 49, 9, 10, 50, 11, 51, 52, 12, 53, 54, 55, 56, 57, 58, 59, 60, 61, 62, 63, 64, 65, 66, 67, 68, 69, 70, 71, 72, 73, 74, 75, 76, 77, 78, 79, 80, 81, 82, 83, 84, 85, 86, 87, 88]) (cells' := 36) (slots' := 5162) hC kA_int (by decide) rfl rfl (fun _ => rfl) (by decide) (by decide) (by decide +kernel) rfl rfl rfl (by decide) (by decide) dX12_init_289 ?_
    refine c_putF hC hN 46 52 rfl rfl (by decide) kf12_116 rfl rfl dX12_init_291 ?_
    refine c_aload_n hC dX12_init_294 rfl rfl ?_
    refine c_bipush hC dX12_init_295 (by decide) ?_
    refine c_newa (h := 89) (t := 0) (N := 8) (hs' := [0, 1, 2, 19, 20, 21, 22, 23, 24, 25, 26, 3, 27, 28, 29, 4, 30, 13, 14, 15, 16, 17, 18, 5, 31, 32, 33, 34, 35, 36, 37, 6, 38, 39, 40, 7, 41, 42, 43, 44, 8, 45, 46, 47, 48, 49, 9, 10, 50, 11, 51, 52, 12, 53, 54, 55, 56, 57, 58, 59, 60, 61, 62, 63, 64, 65, 66, 67, 68, 69, 70, 71, 72, 73, 74, 75, 76, 77, 78, 79, 80, 81, 82, 83, 84, 85, 86, 87, 88, 89]) (cells' := 37) (slots' := 5170) hC kA_int (by decide) rfl rfl (fun _ => rfl) (by decide) (by decide) (by decide +kernel) rfl rfl rfl (by decide) (by decide) dX12_init_297 ?_
    refine c_putF hC hN 47 52 rfl rfl (by decide) kf12_119 rfl rfl dX12_init_299 ?_
    refine c_aload_n hC dX12_init_302 rfl rfl ?_
    refine c_bipush hC dX12_init_303 (by decide) ?_
    refine c_newa (h := 90) (t := 0) (N := 6) (hs' := [0, 1, 2, 19, 20, 21, 22, 23, 24, 25, 26, 3, 27, 28, 29, 4, 30, 13, 14, 15, 16, 17, 18, 5, 31, 32, 33, 34, 35, 36, 37, 6, 38, 39, 40, 7, 41, 42, 43, 44, 8, 45, 46, 47, 48, 49, 9, 10, 50, 11, 51, 52, 12, 53, 54, 55, 56, 57, 58, 59, 60, 61, 62, 63, 64, 65, 66, 67, 68, 69, 70, 71, 72, 73, 74, 75, 76, 77, 78, 79, 80, 81, 82, 83, 84, 85, 86, 87, 88, 89, 90]) (cells' := 38) (slots' := 5176) hC kA_int (by decide) rfl rfl (fun _ => rfl) (by decide) (by decide) (by decide +kernel) rfl rfl rfl (by decide) (by decide) dX12_init_305 ?_
    refine c_putF hC hN 51 52 rfl rfl (by decide) kf12_122 rfl rfl dX12_init_307 ?_
    refine c_aload_n hC dX12_init_310 rfl rfl ?_
    refine c_bipush hC dX12_init_311 (by decide) ?_
    refine c_newa (h := 91) (t := 0) (N := 6) (hs' := [0, 1, 2, 19, 20, 21, 22, 23, 24, 25, 26, 3, 27, 28, 29, 4, 30, 13, 14, 15, 16, 17, 18, 5, 31, 32, 33, 34, 35, 36, 37, 6, 38, 39, 40, 7, 41, 42, 43, 44, 8, 45, 46, 47, 48, 49, 9, 10, 50, 11, 51, 52, 12, 53, 54, 55, 56, 57, 58, 59, 60, 61, 62, 63, 64, 65, 66, 67, 68, 69, 70, 71, 72, 73, 74, 75, 76, 77, 78, 79, 80, 81, 82, 83, 84, 85, 86, 87, 88, 89, 90, 91]) (cells' := 39) (slots' := 5182) hC kA_int (by decide) rfl rfl (fun _ => rfl) (by decide) (by decide) (by decide +kernel) rfl rfl rfl (by decide) (by decide) dX12_init_313 ?_
    refine c_putF hC hN 52 52 rfl rfl (by decide) kf12_125 rfl rfl dX12_init_315 ?_
    refine c_aload_n hC dX12_init_318 rfl rfl ?_
    refine c_bipush hC dX12_init_319 (by decide) ?_
    refine c_newa (h := 92) (t := 0) (N := 6) (hs' := [0, 1, 2, 19, 20, 21, 22, 23, 24, 25, 26, 3, 27, 28, 29, 4, 30, 13, 14, 15, 16, 17, 18, 5, 31, 32, 33, 34, 35, 36, 37, 6, 38, 39, 40, 7, 41, 42, 43, 44, 8, 45, 46, 47, 48, 49, 9, 10, 50, 11, 51, 52, 12, 53, 54, 55, 56, 57, 58, 59, 60, 61, 62, 63, 64, 65, 66, 67, 68, 69, 70, 71, 72, 73, 74, 75, 76, 77, 78, 79, 80, 81, 82, 83, 84, 85, 86, 87, 88, 89, 90, 91, 92]) (cells' := 40) (slots' := 5188) hC kA_int (by decide) rfl rfl (fun _ => rfl) (by decide) (by decide) (by decide +kernel) rfl rfl rfl (by decide) (by decide) dX12_init_321 ?_
    refine c_putF hC hN 53 52 rfl rfl (by decide) kf12_128 rfl rfl dX12_init_323 ?_
    refine c_aload_n hC dX12_init_326 rfl rfl ?_
    refine c_bipush hC dX12_init_327 (by decide) ?_
    refine c_newa (h := 93) (t := 0) (N := 6) (hs' := [0, 1, 2, 19, 20, 21, 22, 23, 24, 25, 26, 3, 27, 28, 29, 4, 30, 13, 14, 15, 16, 17, 18, 5, 31, 32, 33, 34, 35, 36, 37, 6, 38, 39, 40, 7, 41, 42, 43, 44, 8, 45, 46, 47, 48, 49, 9, 10, 50, 11, 51, 52, 12, 53, 54, 55, 56, 57, 58, 59, 60, 61, 62, 63, 64, 65, 66, 67, 68, 69, 70, 71, 72, 73, 74, 75, 76, 77, 78, 79, 80, 81, 82, 83, 84, 85, 86, 87, 88, 89, 90, 91, 92, 93]) (cells' := 41) (slots' := 5194) hC kA_int (by decide) rfl rfl (fun _ => rfl) (by decide) (by decide) (by decide +kernel) rfl rfl rfl (by decide) (by decide) dX12_init_329 ?_
    refine c_putF hC hN 54 52 rfl rfl (by decide) kf12_131 rfl rfl dX12_init_331 ?_
    refine c_aload_n hC dX12_init_334 rfl rfl ?_
    refine c_bipush hC dX12_init_335 (by decide) ?_
    refine c_newa (h := 94) (t := 0) (N := 6) (hs' := [0, 1, 2, 19, 20, 21, 22, 23, 24, 25, 26, 3, 27, 28, 29, 4, 30, 13, 14, 15, 16, 17, 18, 5, 31, 32, 33, 34, 35, 36, 37, 6, 38, 39, 40, 7, 41, 42, 43, 44, 8, 45, 46, 47, 48, 49, 9, 10, 50, 11, 51, 52, 12, 53, 54, 55, 56, 57, 58, 59, 60, 61, 62, 63, 64, 65, 66, 67, 68, 69, 70, 71, 72, 73, 74, 75, 76, 77, 78, 79, 80, 81, 82, 83, 84, 85, 86, 87, 88, 89, 90, 91, 92, 93, 94]) (cells' := 42) (slots' := 5200) hC kA_int (by decide) rfl rfl (fun _ => rfl) (by decide) (by decide) (by decide +kernel) rfl rfl rfl (by decide) (by decide) dX12_init_337 ?_
    refine c_putF hC hN 55 52 rfl rfl (by decide) kf12_134 rfl rfl dX12_init_339 ?_
    refine c_aload_n hC dX12_init_342 rfl rfl ?_
    refine c_bipush hC dX12_init_343 (by decide) ?_
    refine c_newa (h := 95) (t := 0) (N := 6) (hs' := [0, 1, 2, 19, 20, 21, 22, 23, 24, 25, 26, 3, 27, 28, 29, 4, 30, 13, 14, 15, 16, 17, 18, 5, 31, 32, 33, 34, 35, 36, 37, 6, 38, 39, 40, 7, 41, 42, 43, 44, 8, 45, 46, 47, 48, 49, 9, 10, 50, 11, 51, 52, 12, 53, 54, 55, 56, 57, 58, 59, 60, 61, 62, 63, 64, 65, 66, 67, 68, 69, 70, 71, 72, 73, 74, 75, 76, 77, 78, 79, 80, 81, 82, 83, 84, 85, 86, 87, 88, 89, 90, 91, 92, 93, 94, 95]) (cells' := 43) (slots' := 5206) hC kA_int (by decide) rfl rfl (fun _ => rfl) (by decide) (by decide) (by decide +kernel) rfl rfl rfl (by decide) (by decide) dX12_init_345 ?_
    refine c_putF hC hN 56 52 rfl rfl (by decide) kf12_137 rfl rfl dX12_init_347 ?_
    refine c_aload_n hC dX12_init_350 rfl rfl ?_
    refine c_sipush hC dX12_init_351 (by decide) ?_
    refine c_newa (h := 96) (t := 0) (N := 384) (hs' := [0, 1, 2, 19, 20, 21, 22, 23, 24, 25, 26, 3, 27, 28, 29, 4, 30, 13, 14, 15, 16, 17, 18, 5, 31, 32, 33, 34, 35, 36, 37, 6, 38, 39, 40, 7, 41, 42, 43, 44, 8, 45, 46, 47, 48, 49, 9, 10, 50, 11, 51, 52, 12, 53, 54, 55, 56, 57, 58, 59, 60, 61, 62, 63, 64, 65, 66, 67, 68, 69, 70, 71, 72, 73, 74, 75, 76, 77, 78, 79, 80, 81, 82, 83, 84, 85, 86, 87, 88, 89, 90, 91, 92, 93, 94, 95, 96]) (cells' := 44) (slots' := 5590) hC kA_int (by decide) rfl rfl (fun _ => rfl) (by decide) (by decide) (by decide +kernel) rfl rfl rfl (by decide) (by decide) dX12_init_354 ?_
    refine c_putF hC hN 57 52 rfl rfl (by decide) kf12_140 rfl rfl dX12_init_356 ?_
    refine c_aload_n hC dX12_init_359 rfl rfl ?_
    refine c_bipush hC dX12_init_360 (by decide) ?_
    refine c_newa (h := 97) (t := 2) (N := 8) (hs' := [0, 1, 2, 19, 20, 21, 22, 23, 24, 25, 26, 3, 27, 28, 29, 4, 30, 13, 14, 15, 16, 17, 18, 5, 31, 32, 33, 34, 35, 36, 37, 6, 38, 39, 40, 7, 41, 42, 43, 44, 8, 45, 46, 47, 48, 49, 9, 10, 50, 11, 51, 52, 12, 53, 54, 55, 56, 57, 58, 59, 60, 61, 62, 63, 64, 65, 66, 67, 68, 69, 70, 71, 72, 73, 74, 75, 76, 77, 78, 79, 80, 81, 82, 83, 84, 85, 86, 87, 88, 89, 90, 91, 92, 93, 94, 95, 96, 97]) (cells' := 45) (slots' := 5598) hC kA_long (by decide) rfl rfl (fun _ => rfl) (by decide) (by decide) (by decide +kernel) rfl rfl rfl (by decide) (by decide) dX12_init_362 ?_
    refine c_putF hC hN 58 52 rfl rfl (by decide) kf12_143 rfl rfl dX12_init_364 ?_
    refine c_aload_n hC dX12_init_367 rfl rfl ?_
    refine c_sipush hC dX12_init_368 (by decide) ?_
    refine c_newa (h := 98) (t := 0) (N := 200) (hs' := [0, 1, 2, 19, 20, 21, 22, 23, 24, 25, 26, 3, 27, 28, 29, 4, 30, 13, 14, 15, 16, 17, 18, 5, 31, 32, 33, 34, 35, 36, 37, 6, 38, 39, 40, 7, 41, 42, 43, 44, 8, 45, 46, 47, 48, 49, 9, 10, 50, 11, 51, 52, 12, 53, 54, 55, 56, 57, 58, 59, 60, 61, 62, 63, 64, 65, 66, 67, 68, 69, 70, 71, 72, 73, 74, 75, 76, 77, 78, 79, 80, 81, 82, 83, 84, 85, 86, 87, 88, 89, 90, 91, 92, 93, 94, 95, 96, 97, 98]) (cells' := 46) (slots' := 5798) hC kA_int (by decide) rfl rfl (fun _ => rfl) (by decide) (by decide) (by decide +kernel) rfl rfl rfl (by decide) (by decide) dX12_init_371 ?_
    refine c_putF hC hN 59 52 rfl rfl (by decide) kf12_147 rfl rfl dX12_init_373 ?_
    refine c_aload_n hC dX12_init_376 rfl rfl ?_
    refine c_iconst hC dX12_init_377 ?_
    refine c_putI (h := 12) (ci := 12) hC 61 52 rfl rfl (by decide) kf12_150 rfl dX12_init_378 ?_
    refine c_iconst hC dX12_init_381 ?_
    refine c_istore_n hC dX12_init_382 rfl (by decide) ?_
    refine c_sub (L' := [(0, vR 12), (1, vI 0)]) ?_ ⟨rfl, rfl, trivial⟩
    refine c_to_r hC h300 hSt (by decide +kernel) ok_cm4 ⟨by decide, by decide⟩ (fr' := 2) (lo' := 42) ⟨Nat.le_refl _, Nat.le_refl _⟩ (fun ad g hC2 hge => ?_)
    have h3 : ad 300 = n0 := (g 300 (Or.inr (by decide))).trans h300
    have hA : ∀ q, Adr ad q → nA n0 q := by
      intro q hq
      rcases hq with ⟨h, h1, rfl⟩ | h
      · exact hge h h1
      · rw [h3] at h; exact h
    refine s_m_init_L0 (Q := fun M => ∃ B, Inv M B) hC2 (fun pc L M d hI => ?_) m_init_ok
    intro H locs ls hP hO hS hl
    obtain ⟨hx, hb, -, -, -, -, hap, -, hr, hlk, -⟩ := hC2
    exact W.vret hx hb hr (fun t ht hW => ⟨⟨rfl, ad, M, g, by rw [ht]; exact hP, hap, hge, hO, hI⟩, by rw [ht]; exact hS.1, fun q h1 h2 => by rw [ht]; exact hS.2.1 q h1 (fun h4 => h2 (hA q h4))⟩) (fun q hq => hA _ (hS.2.2 q hq)) d hlk
  exact body ad0 s.heap [] _ (fun _ _ => rfl) hP hD va_S.rf hl
section CM2
variable {p : Program} {l : Launch} {e : Env} {R : Room} {s : State} {m : MethodId} {args : Array Value} {below : List Frame} {meth : Method} {c : Code} {cells slots : Nat} {Q : State → Prop}
variable {D : va_G} {aC : Nat → ClassId} {nL : Nat} {cc : ByteArray} {own : String} {fr lo mc ms n0 f0 : Nat} {ret : Option FieldType} {ad0 : Nat → Nat} {h0 : List Nat}
variable {pc : Nat} {L : List (Nat × RV)} {S : List RV}
theorem c_callM (hC : cC p R s m args meth c D aC n0 f0 nL cc own fr lo mc ms ret) {i2 cells' slots' : Nat} (km : Cond.methodLink own i2 yX12_init ∈ lw_gd) (hroom : 2 + 1 ≤ fr ∧ 8 + (2 + 11) + 42 ≤ lo) (hw : wid S ≤ 8) (ec : cells + 46 = cells') (es : slots + 5798 = slots') (hcs : cells' ≤ mc ∧ slots' ≤ ms) (ha : ad0 201 = f0) (h300 : ad0 300 = n0) (hSt : StA ad0 n0 s s.heap) (hsub : ∀ h ∈ h0, h ∈ 201 :: hsM) (hL : (L.all fun q => rin (201 :: hsM) q.2) = true) (hSS : (S.all fun v => rin (201 :: hsM) v) = true) (d3 : decode cc pc = .ok (.invokespecial i2, 3)) {fr' lo' : Nat} (hr : fr' ≤ fr ∧ lo' ≤ lo)
    (k : ∀ (ad : Nat → Nat) (M' B : Mem), (∀ h, h ∈ h0 ∨ 99 ≤ h → ad h = ad0 h) → rC p R s m args meth c cells' slots' D aC ad nL cc own fr' lo' ret → (∀ h, h < 99 → n0 ≤ ad h) → Inv M' B → rG p l e R s m args below meth c cells' slots' Q D aC ad nL (pc + 3) L S M') : cG p l e R s m args below meth c cells slots Q D aC n0 ad0 h0 nL hsM zlM pc L (vR 12 :: S) cm3 := by
  intro ad H locs ls g hP hD hS hl
  subst ec; subst es
  have hrm := hC.2.2.2.2.2.2.2.2.2.2
  have e1 : ad 201 = f0 := (g 201 (Or.inr (by decide))).trans ha
  have e3 : ad 300 = n0 := (g 300 (Or.inr (by decide))).trans h300
  have hSa := hSt.ag (fun h hh => g h (Or.inr hh))
  have run := va_runI (l := l) (e := e) (below := below) (meth := meth) (H := H) (locs := locs) (cells := cells) (slots := slots) (g := F0 m pc ls (.ref (ad 12) :: S.map (cV ad))) (As := []) (n := 0) (b := ad 12) (rest := S.map (cV ad)) (Ts := lw_gd) (own := own) (nL := nL) ⟨hC.1, hC.2.1, hC.2.2.1, hC.2.2.2.1, hC.2.2.2.2.1⟩ (mk_12 (D := D) (aC := aC) e1 e3)
    ⟨callB_of 0 hC.2.2.2.2.1 (gd_in_code kC12_init) rfl rfl rfl (hC.2.2.2.2.1 _ kN12) (hC.2.2.2.2.1 _ km) ddi12 ⟨Nat.le_trans hroom.1 hrm.1, Nat.le_trans hroom.2 hrm.2.1⟩, rfl, hC.2.2.2.2.1 _ kI12_init⟩
    ⟨xP_blind, fun U hU hW => ⟨⟨rfl, by rw [hU]; exact hP, hD, va_K.moved hW.alike hC.2.2.2.2.2.1, by rw [hU]; exact Nat.le_trans hC.2.2.2.2.2.2.1 hS.1, Sc.move hC.2.2.2.2.2.2.2.1 hS hU hW⟩, StA.move hSa hS hU hW⟩⟩ rfl rfl hl.1 rfl (lv_room (by rw [cat_sum]; exact hw)) d3 ⟨Nat.le_trans hcs.1 hrm.2.2.1, Nat.le_trans hcs.2 hrm.2.2.2⟩
  intro T hT X
  obtain ⟨v, st₀, t, T', L1, h9, X', hL1, q1, q2, ⟨⟨hv, ad', M', ha', hPw, hap, hge, hO, B, hI⟩, hz, hk⟩, st⟩ := run T hT X
  have hv := Outcome.returned.inj hv
  subst hv
  rw [h9] at hz hk
  have h3 : ad' 300 = n0 := (ha' 300 (Or.inr (by decide))).trans e3
  have hA : ∀ q, Adr ad' q → nA n0 q := by
    intro q hq
    rcases hq with ⟨h, h1, rfl⟩ | h
    · exact hge h h1
    · rw [h3] at h; exact h
  obtain ⟨x1, x2, x3, x4, x5, x6, x7, x8, x9, x10, x11, x12, x13, x14⟩ := hC
  have g' : ∀ h, h ∈ h0 ∨ 99 ≤ h → ad' h = ad0 h := fun h hh => (ha' h (hh.imp (hsub h) id)).trans (g h hh)
  have := k ad' M' B g' ⟨x1, x2, x3, x4, x5, x6, hap, (hSt.ag (fun h hh => g' h (Or.inr hh))).to hA, x9, x10, Nat.le_trans hr.1 x11, Nat.le_trans hr.2 x12, Nat.le_trans hcs.1 x13, Nat.le_trans hcs.2 x14⟩ hge hI T'.heap (locs ++ L1) ls (by rw [q1]; exact hPw) hO
    ⟨Nat.le_trans hS.1 (by rw [q1]; exact hz), fun q h1 h2 => by
      have h4 : ¬ nA n0 q := fun h4 => h2 (Or.inr (by rw [h3]; exact h4))
      rw [q1, hk q (Nat.lt_of_lt_of_le h1 hS.1) h4]
      exact hS.2.1 q h1 h4, fun q hq => by
      refine Or.inr ?_
      rw [h3]
      rcases List.mem_append.mp hq with h | h
      · exact hS.2.2 q h
      · exact hL1 q h⟩ (by rw [mem_rin ha' hL]; exact hl)
  rw [stk_rin ha' hSS] at this
  obtain ⟨t2, a1, b1⟩ := this T' rfl X'
  exact ⟨t2, st t2 a1, b1⟩
end CM2
