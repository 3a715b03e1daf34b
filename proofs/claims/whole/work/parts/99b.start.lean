/-! ===== THE START ===== -/
theorem kin_all : ∀ ci, ci < 13 → Cond.instantiable (cnm ci) (nfd ci) ∈ lw_gd := by
  intro ci h
  rcases (show ci = 0 ∨ ci = 1 ∨ ci = 2 ∨ ci = 3 ∨ ci = 4 ∨ ci = 5 ∨ ci = 6 ∨ ci = 7 ∨ ci = 8 ∨ ci = 9 ∨ ci = 10 ∨ ci = 11 ∨ ci = 12 by omega) with rfl | rfl | rfl | rfl | rfl | rfl | rfl | rfl | rfl | rfl | rfl | rfl | rfl
  · exact kin0
  · exact kin1
  · exact kin2
  · exact kin3
  · exact kin4
  · exact kin5
  · exact kin6
  · exact kin7
  · exact kin8
  · exact kin9
  · exact kin10
  · exact kin11
  · exact kin12
theorem lw_K {args : Array Value} {s : State} (hts : ∀ w ∈ lw_gd, w.before args s = true) : ∃ (D : va_G) (aC : Nat → ClassId), va_K D vwCl (tysA aC) s := by
  have h : ∀ ci : Nat, ∃ x : ClassId × (Nat → Nat), ci < 13 → u_Kn s (cnm ci) (ctb ci) (nfd ci) x.1 x.2 := by
    intro ci
    by_cases hc : ci < 13
    · obtain ⟨a, b, h⟩ := u_known (n := nfd ci) hts (cls_lay ci hc) (hts _ (kin_all ci hc))
      exact ⟨(a, b), fun _ => h⟩
    · exact ⟨(0, fun _ => 0), fun h => absurd h hc⟩
  obtain ⟨f, hf⟩ := Classical.axiomOfChoice h
  obtain ⟨c0, k0, m0, a1, a2, a3⟩ := Cond.arrayClass_spec (hts _ kA_int)
  obtain ⟨c1, k1, m1, b1, b2, b3⟩ := Cond.arrayClass_spec (hts _ kA_boolean)
  obtain ⟨c2, k2, m2, d1, d2, d3⟩ := Cond.arrayClass_spec (hts _ kA_long)
  refine ⟨(fun c => (f c).1, fun c => (f c).2), fun t => if t = 2 then c2 else if t = 1 then c1 else c0, fun c q hq => ?_, fun k q hk => ?_⟩
  · have hl : c < 13 := (List.getElem?_eq_some_iff.mp hq).1
    rw [vw_at c hl] at hq
    cases hq
    exact hf c hl
  · rcases k with _ | _ | _ | k
    · cases hk
      exact ⟨fun n z => ⟨fun k h => (by cases h), k0, a2, m0, a3⟩, a1⟩
    · cases hk
      exact ⟨fun n z => ⟨fun k h => (by cases h), k1, b2, m1, b3⟩, b1⟩
    · cases hk
      exact ⟨fun n z => ⟨fun k h => (by cases h), k2, d2, m2, d3⟩, d1⟩
    · cases hk
theorem r32_toInt (x : Int32) : R32 x.toInt := by
  have h1 := Int32.le_toInt x
  have h2 := Int32.toInt_lt x
  constructor <;> omega
abbrev gvn : List Cond := flatC (Jvm.Cond.and given_1 narrow_1)
set_option maxRecDepth 100000 in
theorem g_arr : ∀ k, k < 3 → (Cond.arrayOf (.static "SoupSand$Rules" (stN k) "[I") .int ∈ gvn ∧ Cond.eq (.length (.static "SoupSand$Rules" (stN k) "[I")) (.int (Int32.ofNat 10)) ∈ gvn ∧ Cond.laysStatic "SoupSand$Rules" (stN k) "[I" ∈ tables_1) := by decide +kernel
set_option maxRecDepth 100000 in
theorem g_elm : ∀ k, k < 3 → ∀ j, j < 10 → Cond.eq (.elem (.static "SoupSand$Rules" (stN k) "[I") (.int (Int32.ofNat j))) (.int (Int32.ofInt ((stT k).getD j 0))) ∈ gvn := by decide +kernel
set_option maxRecDepth 100000 in
theorem g_str : ∀ i, i < 12 → (Cond.exactly (.string "SoupSand$Reader" (strIx i)) "java/lang/String" ∈ gvn ∧ Cond.eq (.field (.string "SoupSand$Reader" (strIx i)) "java/lang/String" "coder" "B") (.int 0) ∈ gvn ∧ Cond.arrayOf (.field (.string "SoupSand$Reader" (strIx i)) "java/lang/String" "value" "[B") .byte ∈ gvn ∧ Cond.eq (.length (.field (.string "SoupSand$Reader" (strIx i)) "java/lang/String" "value" "[B")) (.int (Int32.ofNat (strLen.getD i 0))) ∈ gvn ∧ Cond.stringRef "SoupSand$Reader" (strIx i) (strTx i) ∈ tables_1) := by decide +kernel
set_option maxRecDepth 100000 in
theorem g_byt : ∀ i, i < 12 → ∀ j, j < strLen.getD i 0 → Cond.eq (.elem (.field (.string "SoupSand$Reader" (strIx i)) "java/lang/String" "value" "[B") (.int (Int32.ofNat j))) (.int ((strByt.getD i []).getD j 0)) ∈ gvn := by decide +kernel
set_option maxRecDepth 100000 in
theorem g_ne : ∀ i, i < 12 → ∀ j, j < 12 → i ≠ j → (Cond.not (Cond.eq (.string "SoupSand$Reader" (strIx i)) (.string "SoupSand$Reader" (strIx j))) ∈ gvn ∨ Cond.not (Cond.eq (.string "SoupSand$Reader" (strIx j)) (.string "SoupSand$Reader" (strIx i))) ∈ gvn) := by decide +kernel
set_option maxRecDepth 100000 in
theorem g_oth : Cond.eq (.static "java/lang/String" "COMPACT_STRINGS" "Z") (.int 1) ∈ gvn ∧ Cond.isRef (.static "jdk/internal/util/Preconditions" "SIOOBE_FORMATTER" "Ljava/util/function/BiFunction;") ∈ gvn ∧ Cond.laysStatic "java/lang/String" "COMPACT_STRINGS" "Z" ∈ tables_1 ∧ Cond.laysStatic "jdk/internal/util/Preconditions" "SIOOBE_FORMATTER" "Ljava/util/function/BiFunction;" ∈ tables_1 := by decide +kernel
theorem lw_St {args : Array Value} {s : State} (hts : ∀ w ∈ lw_gd, w.before args s = true) (htb : ∀ w ∈ lw_tbl, w.before args s = true) (hgv : (Jvm.Cond.and given_1 narrow_1).before args s = true) (b : Nat) : ∃ ad : Nat → Nat, StA ad s.heap.size s s.heap ∧ ad 250 = b ∧ ad 300 = s.heap.size := by
  have hs := flat_of_before _ hgv
  have htt : ∀ w ∈ tables_1, w.before args s = true := fun w hw => htb w (List.mem_append_right _ hw)
  have hA : ∀ a : Nat, a < s.heap.size → ¬ nA s.heap.size a := fun a h1 h2 => Nat.not_le_of_lt h1 h2
  have h1 : ∀ k : Nat, ∃ t : Nat, k < 3 → va_Z "SoupSand$Rules" (stN k) "[I" (.ref t) (nA s.heap.size) s s.heap ∧ va_T .int t 10 (fun j => .int (Int32.ofInt ((stT k).getD j 0))) (nA s.heap.size) s s.heap := by
    intro k
    by_cases hk : k < 3
    · obtain ⟨m1, m2, m3⟩ := g_arr k hk
      obtain ⟨t, ht, hT⟩ := va_Tof (tm := .static "SoupSand$Rules" (stN k) "[I") (ty := .int) (N := 10) (f := fun j => .int (Int32.ofInt ((stT k).getD j 0))) (A := nA s.heap.size) (by decide) (hs _ m1) (va_eqt (hs _ m2)) (fun j hj => va_eqt (hs _ (g_elm k hk j hj))) hA
      exact ⟨t, fun _ => ⟨va_Zof (htt _ m3) (hts _ kN3) ht hA, hT⟩⟩
    · exact ⟨0, fun h => absurd h hk⟩
  obtain ⟨fT, hT⟩ := Classical.axiomOfChoice h1
  obtain ⟨adK, adV, hS, hev⟩ := vk_Sof (N := 12) (tm := fun i => .string "SoupSand$Reader" (strIx i)) (len := strLen) (byt := strByt) (A := nA s.heap.size) (args := args) (s := s) (by decide) (fun i hi => hs _ (g_str i hi).1) (fun i hi => hs _ (g_str i hi).2.1) (fun i hi => hs _ (g_str i hi).2.2.1) (fun i hi => hs _ (g_str i hi).2.2.2.1) (fun i hi j hj => hs _ (g_byt i hi j hj)) (fun i j hi hj hne => (g_ne i hi j hj hne).imp (hs _) (hs _)) hA
  refine ⟨fun x => if x = 250 then b else if x = 300 then s.heap.size else if 231 ≤ x then adV (x - 231) else if 211 ≤ x then adK (x - 211) else fT (x - 201), ⟨fun w hw => ?_, fun k hk => ?_, ⟨fun i hi => ?_, fun i j hi hj e => ?_⟩, fun i hi => ?_, ?_, ?_⟩, if_pos rfl, rfl⟩
  · obtain ⟨a, i, y, c, rfl⟩ := lw_nest_form w hw
    exact va_Nw.of rfl (htb _ (lw_nest_in _ hw))
  · have hk3 : k < 3 := hk
    have e : (if 201 + k = 250 then b else if 201 + k = 300 then s.heap.size else if 231 ≤ 201 + k then adV (201 + k - 231) else if 211 ≤ 201 + k then adK (201 + k - 211) else fT (201 + k - 201)) = fT k := by
      rw [if_neg (by omega), if_neg (by omega), if_neg (by omega), if_neg (by omega), Nat.add_sub_cancel_left]
    have := hT k hk3
    rw [← e] at this
    exact this
  · have hi3 : i < 12 := hi
    have e1 : (if 211 + i = 250 then b else if 211 + i = 300 then s.heap.size else if 231 ≤ 211 + i then adV (211 + i - 231) else if 211 ≤ 211 + i then adK (211 + i - 211) else fT (211 + i - 201)) = adK i := by
      rw [if_neg (by omega), if_neg (by omega), if_neg (by omega), if_pos (by omega), Nat.add_sub_cancel_left]
    have e2 : (if 231 + i = 250 then b else if 231 + i = 300 then s.heap.size else if 231 ≤ 231 + i then adV (231 + i - 231) else if 211 ≤ 231 + i then adK (231 + i - 211) else fT (231 + i - 201)) = adV i := by
      rw [if_neg (by omega), if_neg (by omega), if_pos (by omega), Nat.add_sub_cancel_left]
    have := hS.1 i hi
    rw [← e1, ← e2] at this
    exact this
  · have hi3 : i < 12 := hi
    have hj3 : j < 12 := hj
    have e1 : ∀ i, i < 12 → (if 211 + i = 250 then b else if 211 + i = 300 then s.heap.size else if 231 ≤ 211 + i then adV (211 + i - 231) else if 211 ≤ 211 + i then adK (211 + i - 211) else fT (211 + i - 201)) = adK i := fun i hi3 => by
      rw [if_neg (by omega), if_neg (by omega), if_neg (by omega), if_pos (by omega), Nat.add_sub_cancel_left]
    exact hS.2 i j hi hj (by rw [← e1 i hi3, ← e1 j hj3]; exact e)
  · have hi3 : i < 12 := hi
    have e1 : (if 211 + i = 250 then b else if 211 + i = 300 then s.heap.size else if 231 ≤ 211 + i then adV (211 + i - 231) else if 211 ≤ 211 + i then adK (211 + i - 211) else fT (211 + i - 201)) = adK i := by
      rw [if_neg (by omega), if_neg (by omega), if_neg (by omega), if_pos (by omega), Nat.add_sub_cancel_left]
    have := vk_R.of (htt _ (g_str i hi).2.2.2.2) (hev i hi)
    rw [← e1] at this
    exact this
  · exact va_Zof (htt _ g_oth.2.2.1) (hts _ kJN_String) (va_eqt (hs _ g_oth.1)) hA
  · exact va_Zqof (htt _ g_oth.2.2.2) (hts _ kJN_Pre) (hs _ g_oth.2.1) hA
set_option maxRecDepth 100000 in
set_option maxHeartbeats 4000000 in
theorem whole_start {p : Program} {e : Env} {s : State} {m : MethodId} {below : List Frame} {meth : Method} {c : Code} (l : Launch) {b L : Nat} {xs : Nat → Int32} (hL : L ≤ 3072) (C0 : lw_At p s m meth c b L xs) : W p l e room_1 s m #[Value.ref b] below meth c s.heap [] 0 0 (lw_Z below #[Value.ref b] s) (entryFrame m ([Value.ref b] : List Value).toArray 4) := by
  obtain ⟨hx, hb, hr, hml, hown, htb, hX, hbl, hlk, hgv⟩ := C0
  have hts : ∀ w ∈ lw_gd, w.before #[Value.ref b] s = true := fun w hw => htb w (List.mem_filter.mp hw).1
  obtain ⟨D, aC, hK⟩ := lw_K hts
  obtain ⟨adS, hSt, h250, h300⟩ := lw_St hts htb hgv b
  have hC : cC p room_1 s m #[Value.ref b] meth c D aC s.heap.size (adS 201) 4 cL_law RL 13 486 99 12261 (some .boolean) :=
    ⟨hx, hb, hml, hown, hts, hK, Nat.le_refl _, hSt.Sc, hr, hlk, by decide, by decide, by decide, by decide⟩
  have hl := lv_entry ([Value.ref b]) (n := 4) (Nat.le_of_ble_eq_true rfl)
  rw [lg_entry_eq]
  have body : cG p l e room_1 s m #[Value.ref b] below meth c 0 0 (lw_Z below #[Value.ref b] s) D aC s.heap.size adS [201] 4 [] [] 0 [(0, vR 250)] [] cm0 := by
    refine c_make (gg := 0) (ci := 11) (cells' := 52) (slots' := 6397) hC mk_11 kC11_init (Or.inl kmL_9) kI11_init kN11 kclL_7 kin11 rfl rfl ddi11 ⟨by decide, by decide⟩ (by decide) rfl (fun _ => rfl) (by decide +kernel) rfl rfl ⟨by decide, by decide⟩ (by decide) rfl (by decide +kernel) (by decide +kernel) (by decide +kernel) dL_law_0 dL_law_3 dL_law_4 (by decide) ?_
    refine c_astore_n hC dL_law_7 rfl (by decide) ?_
    refine c_sub (L' := [(0, vR 250), (1, vR 0)]) ?_ ⟨rfl, rfl, trivial⟩
    refine c_new (gg := 12) (ci := 12) (cells' := 53) (slots' := 6463) (hs' := hsM) hC kN12 kclL_10 kin12 rfl (fun _ => rfl) (by decide +kernel) rfl rfl rfl ⟨by decide, by decide⟩ dL_law_8 ?_
    refine c_dup hC dL_law_11 rfl ?_
    refine c_callM (cells' := 99) (slots' := 12261) hC kmL_12 ⟨by decide, by decide⟩ (by decide) rfl rfl ⟨by decide, by decide⟩ rfl h300 hSt (by decide +kernel) (by decide +kernel) (by decide +kernel) dL_law_12 (fr' := 11) (lo' := 266) ⟨by decide, by decide⟩ (fun ad M B g hC2 hge hI => ?_)
    have h3 : ad 300 = s.heap.size := (g 300 (Or.inr (by decide))).trans h300
    have h5 : ad 250 = b := (g 250 (Or.inr (by decide))).trans h250
    have hA : ∀ q, Adr ad q → s.heap.size ≤ q := by
      intro q hq
      rcases hq with ⟨h, h1, rfl⟩ | h
      · exact hge h h1
      · rw [h3] at h; exact h
    refine r_astore_n hC2 dL_law_15 rfl (by decide) ?_
    refine r_iconst hC2 dL_law_16 ?_
    refine r_istore_n hC2 dL_law_17 rfl (by decide) ?_
    refine r_subk (s_law_law_L0 (n := L) (sx := fun j => (xs j.toNat).toInt) (Q := fun z _ => z = 1) hC2 ⟨xs, by rw [h5]; exact hX, by rw [h5]; exact hbl, fun h => absurd (hA _ h) (by rw [h5]; omega), hL, fun j hj => rfl⟩ (fun pc L z M d z0 z1 hz => ?_) (law_ok hL (fun i => ?_) hI)) ⟨rfl, rfl, rfl, rfl, trivial⟩
    · subst hz
      intro H locs ls hP hO hS hl
      exact va_forget (fun q hq => hA _ (hS.2.2 q hq)) (lw_ret hx hb hr hlk d)
    · exact r32_toInt _
  refine body adS s.heap [] _ (fun _ _ => rfl) (fun k q hk => ?_) ⟨fun i j p q hi => ?_, fun k q hk => ?_⟩ va_S.rf ?_
  · cases hk
  · cases hi
  · cases hk
  · have e : [(0, vR 250)].map (cL adS) = [(0, Value.ref b)] := by
      show [(0, Value.ref (adS 250))] = _
      rw [h250]
    rw [e]
    exact hl
