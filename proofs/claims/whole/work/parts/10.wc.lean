section
variable {p : Program} {l : Launch} {e : Env} {R : Room} {s : State} {m : MethodId} {args : Array Value} {below : List Frame} {meth : Method} {c : Code} {cells slots : Nat} {Qs : State → Prop} {D : va_G} {aC : Nat → ClassId} {ad : Nat → Nat}
/-- SoupSand$Rules.entry -/
def w_Rules_entry (M : Mem) (x0 : Int) (Q : Int → Prop) : Prop :=
  (-2147483648 ≤ x0 ∧ x0 ≤ 2147483647) ∧ ((20 ≤ x0 → Q ((x0 - 20) + 5)) ∧ (¬ (20 ≤ x0) → (0 ≤ x0 ∧ x0 ≤ 2147483647) ∧ (Q (x0 % 5))))
set_option maxRecDepth 100000 in
set_option maxHeartbeats 4000000 in
theorem s_Rules_entry {M : Mem} {x0 : Int} {Q : Int → Prop} (hC : rC p R s m args meth c cells slots D aC ad 1 cX3_entry RX3 0 0 (some .int)) (hQ : ∀ (pc : Nat) (L : List (Nat × RV)) (z : Int), decode cX3_entry pc = .ok (.ireturn, 1) → Q z → rG p l e R s m args below meth c cells slots Qs D aC ad 1 pc L [vI z] M) (hw : w_Rules_entry M x0 Q) : rG p l e R s m args below meth c cells slots Qs D aC ad 1 0 [(0, vI x0)] [] M := by
  unfold w_Rules_entry at hw
  refine r_iload_n hC dX3_entry_0 rfl rfl ?_
  refine r_bipush hC dX3_entry_1 (by decide) ?_
  obtain ⟨o1, hw⟩ := hw
  obtain ⟨hwt, hwf⟩ := hw
  refine r_icmp_ge hC 12 dX3_entry_3 (by decide) o1.1 o1.2 (by decide) (by decide) (fun c3 => ?_) (fun c3 => ?_)
  · have hw := hwt c3
    refine r_iload_n hC dX3_entry_12 rfl rfl ?_
    refine r_bipush hC dX3_entry_13 (by decide) ?_
    refine r_isub hC dX3_entry_15 ?_
    refine r_iconst hC dX3_entry_16 ?_
    refine r_iadd hC dX3_entry_17 ?_
    exact hQ _ _ _ dX3_entry_18 hw
  · have hw := hwf c3
    refine r_iload_n hC dX3_entry_6 rfl rfl ?_
    refine r_iconst hC dX3_entry_7 ?_
    obtain ⟨o4, hw⟩ := hw
    refine r_irem hC dX3_entry_8 o4.1 o4.2 (by decide) (by decide) ?_
    refine r_goto hC 18 dX3_entry_9 (by decide) ?_
    exact hQ _ _ _ dX3_entry_18 hw
set_option maxRecDepth 100000 in
set_option maxHeartbeats 4000000 in
theorem d_Rules_entry {l : Launch} {D : va_G} {aC : Nat → ClassId} {ad : Nat → Nat} {M : Mem} {x0 : Int} {Q : Int → Prop} (hw : w_Rules_entry M x0 Q) : Does l D aC ad yX3_entry cX3_entry 1 (some .int) 0 0 [vI x0] M (qI M Q) :=
  Does.of (by decide) (Nat.le_of_ble_eq_true rfl) (fun p e R s m args below meth c hC => r_subk (s_Rules_entry hC (fun pc L z d h => r_iret hC d ⟨rfl, ⟨z, rfl, h⟩⟩) hw) ⟨rfl, trivial⟩)
theorem dd_3_entry : yX3_entry.cls ≠ "java/lang/invoke/MethodHandle" ∧ yX3_entry.cls ≠ "java/lang/invoke/VarHandle" ∧ (parseMethodDescriptor yX3_entry.desc).map (fun d => d.parameters.length) = some 1 := by decide +kernel
/-- SoupSand$Rules.first -/
def w_Rules_first (M : Mem) (x0 : Int) (Q : Int → Prop) : Prop :=
  w_Rules_entry M x0 (fun a1 => (0 ≤ a1 ∧ a1 < 10) ∧ (Q ((stT 0).getD (Int.toNat a1) 0)))
set_option maxRecDepth 100000 in
set_option maxHeartbeats 4000000 in
theorem s_Rules_first {M : Mem} {x0 : Int} {Q : Int → Prop} (hC : rC p R s m args meth c cells slots D aC ad 1 cX3_first RX3 1 20 (some .int)) (hQ : ∀ (pc : Nat) (L : List (Nat × RV)) (z : Int), decode cX3_first pc = .ok (.ireturn, 1) → Q z → rG p l e R s m args below meth c cells slots Qs D aC ad 1 pc L [vI z] M) (hw : w_Rules_first M x0 Q) : rG p l e R s m args below meth c cells slots Qs D aC ad 1 0 [(0, vI x0)] [] M := by
  unfold w_Rules_first at hw
  refine r_gets hC 0 (by decide) kZ_FIRST dX3_first_0 ?_
  refine r_iload_n hC dX3_first_3 rfl rfl ?_
  refine r_callS hC (d_Rules_entry hw) kC3_entry km3_20 kT3_entry kN3 dd_3_entry ⟨Nat.le_of_ble_eq_true rfl, Nat.le_of_ble_eq_true rfl⟩ rfl (Nat.le_of_ble_eq_true rfl) dX3_first_4 (fun r M' hp => ?_)
  obtain ⟨rfl, a1, rfl, hw⟩ := hp
  try dsimp only at hw
  obtain ⟨o2, hw⟩ := hw
  refine r_stald hC 0 (by decide) o2.1 o2.2 dX3_first_7 ?_
  exact hQ _ _ _ dX3_first_8 hw
set_option maxRecDepth 100000 in
set_option maxHeartbeats 4000000 in
theorem d_Rules_first {l : Launch} {D : va_G} {aC : Nat → ClassId} {ad : Nat → Nat} {M : Mem} {x0 : Int} {Q : Int → Prop} (hw : w_Rules_first M x0 Q) : Does l D aC ad yX3_first cX3_first 1 (some .int) 1 20 [vI x0] M (qI M Q) :=
  Does.of (by decide) (Nat.le_of_ble_eq_true rfl) (fun p e R s m args below meth c hC => r_subk (s_Rules_first hC (fun pc L z d h => r_iret hC d ⟨rfl, ⟨z, rfl, h⟩⟩) hw) ⟨rfl, trivial⟩)
/-- SoupSand$Ground.hasColumn -/
def w_Ground_hasColumn (M : Mem) (x1 : Int) (Q : Int → Prop) : Prop :=
  (-2147483648 ≤ x1 ∧ x1 ≤ 2147483647) ∧ ((x1 < 0 → Q 0) ∧ (¬ (x1 < 0) → (-2147483648 ≤ x1 ∧ x1 ≤ 2147483647) ∧ ((6 ≤ x1 → Q 0) ∧ (¬ (6 ≤ x1) → Q 1))))
set_option maxRecDepth 100000 in
set_option maxHeartbeats 4000000 in
theorem s_Ground_hasColumn {M : Mem} {x1 : Int} {Q : Int → Prop} (hC : rC p R s m args meth c cells slots D aC ad 2 cX0_hasColumn RX0 0 0 (some .boolean)) (hQ : ∀ (pc : Nat) (L : List (Nat × RV)) (z : Int), decode cX0_hasColumn pc = .ok (.ireturn, 1) → 0 ≤ z → z ≤ 1 → Q z → rG p l e R s m args below meth c cells slots Qs D aC ad 2 pc L [vI z] M) (hw : w_Ground_hasColumn M x1 Q) : rG p l e R s m args below meth c cells slots Qs D aC ad 2 0 [(0, vR 2), (1, vI x1)] [] M := by
  unfold w_Ground_hasColumn at hw
  refine r_iload_n hC dX0_hasColumn_0 rfl rfl ?_
  obtain ⟨o1, hw⟩ := hw
  obtain ⟨hwt, hwf⟩ := hw
  refine r_if_lt hC 14 dX0_hasColumn_1 (by decide) o1.1 o1.2 (fun c3 => ?_) (fun c3 => ?_)
  · have hw := hwt c3
    refine r_iconst hC dX0_hasColumn_14 ?_
    exact hQ _ _ _ dX0_hasColumn_15 (by decide) (by decide) hw
  · have hw := hwf c3
    refine r_iload_n hC dX0_hasColumn_4 rfl rfl ?_
    refine r_bipush hC dX0_hasColumn_5 (by decide) ?_
    obtain ⟨o5, hw⟩ := hw
    obtain ⟨hwt, hwf⟩ := hw
    refine r_icmp_ge hC 14 dX0_hasColumn_7 (by decide) o5.1 o5.2 (by decide) (by decide) (fun c7 => ?_) (fun c7 => ?_)
    · have hw := hwt c7
      refine r_iconst hC dX0_hasColumn_14 ?_
      exact hQ _ _ _ dX0_hasColumn_15 (by decide) (by decide) hw
    · have hw := hwf c7
      refine r_iconst hC dX0_hasColumn_10 ?_
      refine r_goto hC 15 dX0_hasColumn_11 (by decide) ?_
      exact hQ _ _ _ dX0_hasColumn_15 (by decide) (by decide) hw
set_option maxRecDepth 100000 in
set_option maxHeartbeats 4000000 in
theorem d_Ground_hasColumn {l : Launch} {D : va_G} {aC : Nat → ClassId} {ad : Nat → Nat} {M : Mem} {x1 : Int} {Q : Int → Prop} (hw : w_Ground_hasColumn M x1 Q) : Does l D aC ad yX0_hasColumn cX0_hasColumn 2 (some .boolean) 0 0 [vR 2, vI x1] M (qI M Q) :=
  Does.of (by decide) (Nat.le_of_ble_eq_true rfl) (fun p e R s m args below meth c hC => r_subk (s_Ground_hasColumn hC (fun pc L z d z1 z2 h => r_zret hC d z1 z2 ⟨rfl, ⟨z, rfl, h⟩⟩) hw) ⟨rfl, rfl, trivial⟩)
/-- SoupSand.beyond -/
def w_S_beyond (M : Mem) (x0 : Int) (x1 : Int) (x2 : Int) (Q : Int → Prop) : Prop :=
  (-2147483648 ≤ x0 ∧ x0 ≤ 2147483647) ∧ ((-2147483648 ≤ x1 ∧ x1 ≤ 2147483647) ∧ ((x0 < x1 → Q 1) ∧ (¬ (x0 < x1) → (-2147483648 ≤ x0 ∧ x0 ≤ 2147483647) ∧ ((-2147483648 ≤ x2 ∧ x2 ≤ 2147483647) ∧ ((x0 ≤ x2 → Q 0) ∧ (¬ (x0 ≤ x2) → Q 1))))))
set_option maxRecDepth 100000 in
set_option maxHeartbeats 4000000 in
theorem s_S_beyond {M : Mem} {x0 : Int} {x1 : Int} {x2 : Int} {Q : Int → Prop} (hC : rC p R s m args meth c cells slots D aC ad 3 cX11_beyond RX11 0 0 (some .boolean)) (hQ : ∀ (pc : Nat) (L : List (Nat × RV)) (z : Int), decode cX11_beyond pc = .ok (.ireturn, 1) → 0 ≤ z → z ≤ 1 → Q z → rG p l e R s m args below meth c cells slots Qs D aC ad 3 pc L [vI z] M) (hw : w_S_beyond M x0 x1 x2 Q) : rG p l e R s m args below meth c cells slots Qs D aC ad 3 0 [(0, vI x0), (1, vI x1), (2, vI x2)] [] M := by
  unfold w_S_beyond at hw
  refine r_iload_n hC dX11_beyond_0 rfl rfl ?_
  refine r_iload_n hC dX11_beyond_1 rfl rfl ?_
  obtain ⟨o1, hw⟩ := hw
  obtain ⟨o2, hw⟩ := hw
  obtain ⟨hwt, hwf⟩ := hw
  refine r_icmp_lt hC 10 dX11_beyond_2 (by decide) o1.1 o1.2 o2.1 o2.2 (fun c3 => ?_) (fun c3 => ?_)
  · have hw := hwt c3
    refine r_iconst hC dX11_beyond_10 ?_
    refine r_goto hC 15 dX11_beyond_11 (by decide) ?_
    exact hQ _ _ _ dX11_beyond_15 (by decide) (by decide) hw
  · have hw := hwf c3
    refine r_iload_n hC dX11_beyond_5 rfl rfl ?_
    refine r_iload_n hC dX11_beyond_6 rfl rfl ?_
    obtain ⟨o5, hw⟩ := hw
    obtain ⟨o6, hw⟩ := hw
    obtain ⟨hwt, hwf⟩ := hw
    refine r_icmp_le hC 14 dX11_beyond_7 (by decide) o5.1 o5.2 o6.1 o6.2 (fun c7 => ?_) (fun c7 => ?_)
    · have hw := hwt c7
      refine r_iconst hC dX11_beyond_14 ?_
      exact hQ _ _ _ dX11_beyond_15 (by decide) (by decide) hw
    · have hw := hwf c7
      refine r_iconst hC dX11_beyond_10 ?_
      refine r_goto hC 15 dX11_beyond_11 (by decide) ?_
      exact hQ _ _ _ dX11_beyond_15 (by decide) (by decide) hw
set_option maxRecDepth 100000 in
set_option maxHeartbeats 4000000 in
theorem d_S_beyond {l : Launch} {D : va_G} {aC : Nat → ClassId} {ad : Nat → Nat} {M : Mem} {x0 : Int} {x1 : Int} {x2 : Int} {Q : Int → Prop} (hw : w_S_beyond M x0 x1 x2 Q) : Does l D aC ad yX11_beyond cX11_beyond 3 (some .boolean) 0 0 [vI x0, vI x1, vI x2] M (qI M Q) :=
  Does.of (by decide) (Nat.le_of_ble_eq_true rfl) (fun p e R s m args below meth c hC => r_subk (s_S_beyond hC (fun pc L z d z1 z2 h => r_zret hC d z1 z2 ⟨rfl, ⟨z, rfl, h⟩⟩) hw) ⟨rfl, rfl, rfl, trivial⟩)
/-- SoupSand$Words.forget -/
def w_Words_forget (M : Mem) (Q : Mem → Prop) : Prop :=
  ∀ M2 : Mem, M2 = mset M 5 9 0 → Q M2
set_option maxRecDepth 100000 in
set_option maxHeartbeats 4000000 in
theorem s_Words_forget {M : Mem} {Q : Mem → Prop} (hC : rC p R s m args meth c cells slots D aC ad 1 cX9_forget RX9 0 0 none) (hQ : ∀ (pc : Nat) (L : List (Nat × RV)) (M : Mem), decode cX9_forget pc = .ok (.return_, 1) → Q M → rG p l e R s m args below meth c cells slots Qs D aC ad 1 pc L [] M) (hw : w_Words_forget M Q) : rG p l e R s m args below meth c cells slots Qs D aC ad 1 0 [(0, vR 5)] [] M := by
  unfold w_Words_forget at hw
  refine r_aload_n hC dX9_forget_0 rfl rfl ?_
  refine r_iconst hC dX9_forget_1 ?_
  refine r_putI hC 9 rfl (by decide) kf9_37 rfl rfl (by decide) (by decide) dX9_forget_2 ?_
  replace hw := hw _ rfl
  exact hQ _ _ _ dX9_forget_5 hw
set_option maxRecDepth 100000 in
set_option maxHeartbeats 4000000 in
theorem d_Words_forget {l : Launch} {D : va_G} {aC : Nat → ClassId} {ad : Nat → Nat} {M : Mem} {Q : Mem → Prop} (hw : w_Words_forget M Q) : Does l D aC ad yX9_forget cX9_forget 1 none 0 0 [vR 5] M (pV Q) :=
  Does.of (by decide) (Nat.le_of_ble_eq_true rfl) (fun p e R s m args below meth c hC => r_subk (s_Words_forget hC (fun pc L M d h => r_vret hC d ⟨rfl, h⟩) hw) ⟨rfl, trivial⟩)
theorem dd_0_hasColumn : yX0_hasColumn.cls ≠ "java/lang/invoke/MethodHandle" ∧ yX0_hasColumn.cls ≠ "java/lang/invoke/VarHandle" ∧ (parseMethodDescriptor yX0_hasColumn.desc).map (fun d => d.parameters.length) = some 1 := by decide +kernel
theorem dd_9_forget : yX9_forget.cls ≠ "java/lang/invoke/MethodHandle" ∧ yX9_forget.cls ≠ "java/lang/invoke/VarHandle" ∧ (parseMethodDescriptor yX9_forget.desc).map (fun d => d.parameters.length) = some 0 := by decide +kernel
theorem dd_11_beyond : yX11_beyond.cls ≠ "java/lang/invoke/MethodHandle" ∧ yX11_beyond.cls ≠ "java/lang/invoke/VarHandle" ∧ (parseMethodDescriptor yX11_beyond.desc).map (fun d => d.parameters.length) = some 3 := by decide +kernel
/-- SoupSand.column -/
def w_S_column_j1 (Q : Int → Mem → Prop) (x1 : Int) (x3 : Int) (M : Mem) : Prop :=
  (0 ≤ x1 ∧ x1 < 6) ∧ (∀ a2 : Int, a2 = M 20 x1 → 0 ≤ a2 → a2 ≤ 400 → ((0 ≤ x1 ∧ x1 < 6) ∧ (0 ≤ x3 ∧ x3 ≤ 400)) ∧ (∀ M5 : Mem, M5 = mset M 20 x1 x3 → w_Words_forget M5 (fun M7 => Q a2 M7)))
set_option maxRecDepth 100000 in
set_option maxHeartbeats 4000000 in
theorem s_S_column_j1 {Q : Int → Mem → Prop} {x1 : Int} {x3 : Int} {M : Mem} (hC : rC p R s m args meth c cells slots D aC ad 6 cX11_column RX11 1 22 (some .int)) (hQ : ∀ (pc : Nat) (L : List (Nat × RV)) (z : Int) (M : Mem), decode cX11_column pc = .ok (.ireturn, 1) → Q z M → rG p l e R s m args below meth c cells slots Qs D aC ad 6 pc L [vI z] M) (hw : w_S_column_j1 Q x1 x3 M) : rG p l e R s m args below meth c cells slots Qs D aC ad 6 70 [(0, vR 0), (1, vI x1), (3, vI x3)] [vR 20] M := by
  unfold w_S_column_j1 at hw
  refine r_astore hC dX11_column_70 (by decide) ?_
  refine r_aload hC dX11_column_72 rfl ?_
  refine r_iload_n hC dX11_column_74 rfl rfl ?_
  obtain ⟨o1, hw⟩ := hw
  refine r_iald hC rfl o1.1 o1.2 (by decide) (by decide) dX11_column_75 (fun b3 b3' => ?_)
  replace hw := hw _ rfl b3 b3'
  refine r_istore hC dX11_column_76 (by decide) ?_
  refine r_aload hC dX11_column_78 rfl ?_
  refine r_iload_n hC dX11_column_80 rfl rfl ?_
  refine r_iload_n hC dX11_column_81 rfl rfl ?_
  obtain ⟨o4, hw⟩ := hw
  refine r_iast hC rfl o4.1.1 o4.1.2 (by decide) (by decide) o4.2.1 o4.2.2 dX11_column_82 ?_
  replace hw := hw _ rfl
  refine r_aload_n hC dX11_column_83 rfl rfl ?_
  refine r_getR hC 4 rfl (by decide) kf11_34 rfl rfl dX11_column_84 ?_
  refine r_callV hC (d_Words_forget hw) rfl kC9_forget km11_97 kI9_forget kS9_forget kN9 dd_9_forget ⟨Nat.le_of_ble_eq_true rfl, Nat.le_of_ble_eq_true rfl⟩ rfl (Nat.le_of_ble_eq_true rfl) dX11_column_87 (fun r M' hp => ?_)
  obtain ⟨rfl, hw⟩ := hp
  try dsimp only at hw
  refine r_iload hC dX11_column_90 rfl ?_
  exact hQ _ _ _ _ dX11_column_92 hw
def w_S_column_j1a (Q : Int → Mem → Prop) (x1 : Int) (x3 : Int) (M : Mem) : Prop :=
  (0 ≤ x1 ∧ x1 < 6) ∧ (∀ a2 : Int, a2 = M 19 x1 → 0 ≤ a2 → a2 ≤ 999 → ((0 ≤ x1 ∧ x1 < 6) ∧ (0 ≤ x3 ∧ x3 ≤ 999)) ∧ (∀ M5 : Mem, M5 = mset M 19 x1 x3 → w_Words_forget M5 (fun M7 => Q a2 M7)))
set_option maxRecDepth 100000 in
set_option maxHeartbeats 4000000 in
theorem s_S_column_j1a {Q : Int → Mem → Prop} {x1 : Int} {x3 : Int} {M : Mem} (hC : rC p R s m args meth c cells slots D aC ad 6 cX11_column RX11 1 22 (some .int)) (hQ : ∀ (pc : Nat) (L : List (Nat × RV)) (z : Int) (M : Mem), decode cX11_column pc = .ok (.ireturn, 1) → Q z M → rG p l e R s m args below meth c cells slots Qs D aC ad 6 pc L [vI z] M) (hw : w_S_column_j1a Q x1 x3 M) : rG p l e R s m args below meth c cells slots Qs D aC ad 6 70 [(0, vR 0), (1, vI x1), (3, vI x3)] [vR 19] M := by
  unfold w_S_column_j1a at hw
  refine r_astore hC dX11_column_70 (by decide) ?_
  refine r_aload hC dX11_column_72 rfl ?_
  refine r_iload_n hC dX11_column_74 rfl rfl ?_
  obtain ⟨o1, hw⟩ := hw
  refine r_iald hC rfl o1.1 o1.2 (by decide) (by decide) dX11_column_75 (fun b3 b3' => ?_)
  replace hw := hw _ rfl b3 b3'
  refine r_istore hC dX11_column_76 (by decide) ?_
  refine r_aload hC dX11_column_78 rfl ?_
  refine r_iload_n hC dX11_column_80 rfl rfl ?_
  refine r_iload_n hC dX11_column_81 rfl rfl ?_
  obtain ⟨o4, hw⟩ := hw
  refine r_iast hC rfl o4.1.1 o4.1.2 (by decide) (by decide) o4.2.1 o4.2.2 dX11_column_82 ?_
  replace hw := hw _ rfl
  refine r_aload_n hC dX11_column_83 rfl rfl ?_
  refine r_getR hC 4 rfl (by decide) kf11_34 rfl rfl dX11_column_84 ?_
  refine r_callV hC (d_Words_forget hw) rfl kC9_forget km11_97 kI9_forget kS9_forget kN9 dd_9_forget ⟨Nat.le_of_ble_eq_true rfl, Nat.le_of_ble_eq_true rfl⟩ rfl (Nat.le_of_ble_eq_true rfl) dX11_column_87 (fun r M' hp => ?_)
  obtain ⟨rfl, hw⟩ := hp
  try dsimp only at hw
  refine r_iload hC dX11_column_90 rfl ?_
  exact hQ _ _ _ _ dX11_column_92 hw
def w_S_column_j0 (Q : Int → Mem → Prop) (x1 : Int) (x2 : Int) (x3 : Int) (s0 : Int) (s1 : Int) (s2 : Int) (M : Mem) : Prop :=
  w_S_beyond M s0 s1 s2 (fun a1 => (-2147483648 ≤ a1 ∧ a1 ≤ 2147483647) ∧ ((a1 = 0 → (-2147483648 ≤ x2 ∧ x2 ≤ 2147483647) ∧ ((¬ (x2 = 0) → w_S_column_j1 Q x1 x3 M) ∧ (x2 = 0 → w_S_column_j1a Q x1 x3 M))) ∧ (¬ (a1 = 0) → Q (-1002) M)))
set_option maxRecDepth 100000 in
set_option maxHeartbeats 4000000 in
theorem s_S_column_j0 {Q : Int → Mem → Prop} {x1 : Int} {x2 : Int} {x3 : Int} {s0 : Int} {s1 : Int} {s2 : Int} {M : Mem} (hC : rC p R s m args meth c cells slots D aC ad 6 cX11_column RX11 1 22 (some .int)) (hQ : ∀ (pc : Nat) (L : List (Nat × RV)) (z : Int) (M : Mem), decode cX11_column pc = .ok (.ireturn, 1) → Q z M → rG p l e R s m args below meth c cells slots Qs D aC ad 6 pc L [vI z] M) (hw : w_S_column_j0 Q x1 x2 x3 s0 s1 s2 M) : rG p l e R s m args below meth c cells slots Qs D aC ad 6 39 [(0, vR 0), (1, vI x1), (2, vI x2), (3, vI x3)] [vI s2, vI s1, vI s0] M := by
  unfold w_S_column_j0 at hw
  refine r_callS hC (d_S_beyond hw) kC11_beyond km11_86 kT11_beyond kN11 dd_11_beyond ⟨Nat.le_of_ble_eq_true rfl, Nat.le_of_ble_eq_true rfl⟩ rfl (Nat.le_of_ble_eq_true rfl) dX11_column_39 (fun r M' hp => ?_)
  obtain ⟨rfl, a1, rfl, hw⟩ := hp
  try dsimp only at hw
  obtain ⟨o2, hw⟩ := hw
  obtain ⟨hwt, hwf⟩ := hw
  refine r_if_eq hC 49 dX11_column_42 (by decide) o2.1 o2.2 (fun c4 => ?_) (fun c4 => ?_)
  · have hw := hwt c4
    refine r_iload_n hC dX11_column_49 rfl rfl ?_
    obtain ⟨o5, hw⟩ := hw
    obtain ⟨hwt, hwf⟩ := hw
    refine r_if_ne hC 63 dX11_column_50 (by decide) o5.1 o5.2 (fun c7 => ?_) (fun c7 => ?_)
    · have hw := hwt c7
      refine r_aload_n hC dX11_column_63 rfl rfl ?_
      refine r_getR hC 1 rfl (by decide) kf11_20 rfl rfl dX11_column_64 ?_
      refine r_getR hC 1 rfl (by decide) kf11_94 rfl rfl dX11_column_67 ?_
      exact r_subk (s_S_column_j1 hC hQ hw) ⟨rfl, rfl, rfl, trivial⟩
    · have hw := hwf c7
      refine r_aload_n hC dX11_column_53 rfl rfl ?_
      refine r_getR hC 1 rfl (by decide) kf11_20 rfl rfl dX11_column_54 ?_
      refine r_getR hC 0 rfl (by decide) kf11_90 rfl rfl dX11_column_57 ?_
      refine r_goto hC 70 dX11_column_60 (by decide) ?_
      exact r_subk (s_S_column_j1a hC hQ hw) ⟨rfl, rfl, rfl, trivial⟩
  · have hw := hwf c4
    refine r_sipush hC dX11_column_45 (by decide) ?_
    exact hQ _ _ _ _ dX11_column_48 hw
def w_S_column (M : Mem) (x1 : Int) (x2 : Int) (x3 : Int) (Q : Int → Mem → Prop) : Prop :=
  w_Ground_hasColumn M x1 (fun a1 => (-2147483648 ≤ a1 ∧ a1 ≤ 2147483647) ∧ ((¬ (a1 = 0) → w_S_beyond M x2 0 1 (fun a5 => (-2147483648 ≤ a5 ∧ a5 ≤ 2147483647) ∧ ((¬ (a5 = 0) → Q (-1002) M) ∧ (a5 = 0 → (-2147483648 ≤ x2 ∧ x2 ≤ 2147483647) ∧ ((¬ (x2 = 0) → w_S_column_j0 Q x1 x2 x3 x3 0 400 M) ∧ (x2 = 0 → w_S_column_j0 Q x1 x2 x3 x3 0 999 M)))))) ∧ (a1 = 0 → Q (-1001) M)))
set_option maxRecDepth 100000 in
set_option maxHeartbeats 4000000 in
theorem s_S_column {M : Mem} {x1 : Int} {x2 : Int} {x3 : Int} {Q : Int → Mem → Prop} (hC : rC p R s m args meth c cells slots D aC ad 6 cX11_column RX11 1 22 (some .int)) (hQ : ∀ (pc : Nat) (L : List (Nat × RV)) (z : Int) (M : Mem), decode cX11_column pc = .ok (.ireturn, 1) → Q z M → rG p l e R s m args below meth c cells slots Qs D aC ad 6 pc L [vI z] M) (hw : w_S_column M x1 x2 x3 Q) : rG p l e R s m args below meth c cells slots Qs D aC ad 6 0 [(0, vR 0), (1, vI x1), (2, vI x2), (3, vI x3)] [] M := by
  unfold w_S_column at hw
  refine r_aload_n hC dX11_column_0 rfl rfl ?_
  refine r_getR hC 1 rfl (by decide) kf11_20 rfl rfl dX11_column_1 ?_
  refine r_iload_n hC dX11_column_4 rfl rfl ?_
  refine r_callV hC (d_Ground_hasColumn hw) rfl kC0_hasColumn km11_80 kI0_hasColumn kS0_hasColumn kN0 dd_0_hasColumn ⟨Nat.le_of_ble_eq_true rfl, Nat.le_of_ble_eq_true rfl⟩ rfl (Nat.le_of_ble_eq_true rfl) dX11_column_5 (fun r M' hp => ?_)
  obtain ⟨rfl, a1, rfl, hw⟩ := hp
  try dsimp only at hw
  obtain ⟨o2, hw⟩ := hw
  obtain ⟨hwt, hwf⟩ := hw
  refine r_if_ne hC 15 dX11_column_8 (by decide) o2.1 o2.2 (fun c4 => ?_) (fun c4 => ?_)
  · have hw := hwt c4
    refine r_iload_n hC dX11_column_15 rfl rfl ?_
    refine r_iconst hC dX11_column_16 ?_
    refine r_iconst hC dX11_column_17 ?_
    refine r_callS hC (d_S_beyond hw) kC11_beyond km11_86 kT11_beyond kN11 dd_11_beyond ⟨Nat.le_of_ble_eq_true rfl, Nat.le_of_ble_eq_true rfl⟩ rfl (Nat.le_of_ble_eq_true rfl) dX11_column_18 (fun r M' hp => ?_)
    obtain ⟨rfl, a5, rfl, hw⟩ := hp
    try dsimp only at hw
    obtain ⟨o6, hw⟩ := hw
    obtain ⟨hwt, hwf⟩ := hw
    refine r_if_ne hC 45 dX11_column_21 (by decide) o6.1 o6.2 (fun c8 => ?_) (fun c8 => ?_)
    · have hw := hwt c8
      refine r_sipush hC dX11_column_45 (by decide) ?_
      exact hQ _ _ _ _ dX11_column_48 hw
    · have hw := hwf c8
      refine r_iload_n hC dX11_column_24 rfl rfl ?_
      refine r_iconst hC dX11_column_25 ?_
      refine r_iload_n hC dX11_column_26 rfl rfl ?_
      obtain ⟨o9, hw⟩ := hw
      obtain ⟨hwt, hwf⟩ := hw
      refine r_if_ne hC 36 dX11_column_27 (by decide) o9.1 o9.2 (fun c11 => ?_) (fun c11 => ?_)
      · have hw := hwt c11
        refine r_sipush hC dX11_column_36 (by decide) ?_
        exact r_subk (s_S_column_j0 hC hQ hw) ⟨rfl, rfl, rfl, rfl, trivial⟩
      · have hw := hwf c11
        refine r_sipush hC dX11_column_30 (by decide) ?_
        refine r_goto hC 39 dX11_column_33 (by decide) ?_
        exact r_subk (s_S_column_j0 hC hQ hw) ⟨rfl, rfl, rfl, rfl, trivial⟩
  · have hw := hwf c4
    refine r_sipush hC dX11_column_11 (by decide) ?_
    exact hQ _ _ _ _ dX11_column_14 hw
set_option maxRecDepth 100000 in
set_option maxHeartbeats 4000000 in
theorem d_S_column {l : Launch} {D : va_G} {aC : Nat → ClassId} {ad : Nat → Nat} {M : Mem} {x1 : Int} {x2 : Int} {x3 : Int} {Q : Int → Mem → Prop} (hw : w_S_column M x1 x2 x3 Q) : Does l D aC ad yX11_column cX11_column 6 (some .int) 1 22 [vR 0, vI x1, vI x2, vI x3] M (pI Q) :=
  Does.of (by decide) (Nat.le_of_ble_eq_true rfl) (fun p e R s m args below meth c hC => r_subk (s_S_column hC (fun pc L z M d h => r_iret hC d ⟨z, rfl, h⟩) hw) ⟨rfl, rfl, rfl, rfl, trivial⟩)
/-- SoupSand$Ground.addValue -/
def w_Ground_addValue (M : Mem) (x1 : Int) (x2 : Int) (x3 : Int) (x4 : Int) (Q : Int → Mem → Prop) : Prop :=
  (0 ≤ (x1 * 6) + x2 ∧ (x1 * 6) + x2 < 36) ∧ (∀ a2 : Int, a2 = M 24 ((x1 * 6) + x2) → 0 ≤ a2 → a2 ≤ 3 → ((0 ≤ (((x1 * 6) + x2) * 3) + a2 ∧ (((x1 * 6) + x2) * 3) + a2 < 108) ∧ (0 ≤ x3 ∧ x3 ≤ 100)) ∧ (∀ M5 : Mem, M5 = mset M 25 ((((x1 * 6) + x2) * 3) + a2) x3 → ((0 ≤ (((x1 * 6) + x2) * 3) + a2 ∧ (((x1 * 6) + x2) * 3) + a2 < 108) ∧ (0 ≤ x4 ∧ x4 ≤ 9)) ∧ (∀ M7 : Mem, M7 = mset M5 26 ((((x1 * 6) + x2) * 3) + a2) x4 → ((0 ≤ (x1 * 6) + x2 ∧ (x1 * 6) + x2 < 36) ∧ (0 ≤ a2 + 1 ∧ a2 + 1 ≤ 3)) ∧ (∀ M9 : Mem, M9 = mset M7 24 ((x1 * 6) + x2) (a2 + 1) → Q (a2 + 1) M9))))
set_option maxRecDepth 100000 in
set_option maxHeartbeats 4000000 in
theorem s_Ground_addValue {M : Mem} {x1 : Int} {x2 : Int} {x3 : Int} {x4 : Int} {Q : Int → Mem → Prop} (hC : rC p R s m args meth c cells slots D aC ad 7 cX0_addValue RX0 0 0 (some .int)) (hQ : ∀ (pc : Nat) (L : List (Nat × RV)) (z : Int) (M : Mem), decode cX0_addValue pc = .ok (.ireturn, 1) → Q z M → rG p l e R s m args below meth c cells slots Qs D aC ad 7 pc L [vI z] M) (hw : w_Ground_addValue M x1 x2 x3 x4 Q) : rG p l e R s m args below meth c cells slots Qs D aC ad 7 0 [(0, vR 2), (1, vI x1), (2, vI x2), (3, vI x3), (4, vI x4)] [] M := by
  unfold w_Ground_addValue at hw
  refine r_iload_n hC dX0_addValue_0 rfl rfl ?_
  refine r_bipush hC dX0_addValue_1 (by decide) ?_
  refine r_imul hC dX0_addValue_3 ?_
  refine r_iload_n hC dX0_addValue_4 rfl rfl ?_
  refine r_iadd hC dX0_addValue_5 ?_
  refine r_istore hC dX0_addValue_6 (by decide) ?_
  refine r_aload_n hC dX0_addValue_8 rfl rfl ?_
  refine r_getR hC 5 rfl (by decide) kf0_27 rfl rfl dX0_addValue_9 ?_
  refine r_iload hC dX0_addValue_12 rfl ?_
  obtain ⟨o1, hw⟩ := hw
  refine r_iald hC rfl o1.1 o1.2 (by decide) (by decide) dX0_addValue_14 (fun b3 b3' => ?_)
  replace hw := hw _ rfl b3 b3'
  refine r_istore hC dX0_addValue_15 (by decide) ?_
  refine r_aload_n hC dX0_addValue_17 rfl rfl ?_
  refine r_getR hC 6 rfl (by decide) kf0_30 rfl rfl dX0_addValue_18 ?_
  refine r_iload hC dX0_addValue_21 rfl ?_
  refine r_iconst hC dX0_addValue_23 ?_
  refine r_imul hC dX0_addValue_24 ?_
  refine r_iload hC dX0_addValue_25 rfl ?_
  refine r_iadd hC dX0_addValue_27 ?_
  refine r_iload_n hC dX0_addValue_28 rfl rfl ?_
  obtain ⟨o4, hw⟩ := hw
  refine r_iast hC rfl o4.1.1 o4.1.2 (by decide) (by decide) o4.2.1 o4.2.2 dX0_addValue_29 ?_
  replace hw := hw _ rfl
  refine r_aload_n hC dX0_addValue_30 rfl rfl ?_
  refine r_getR hC 7 rfl (by decide) kf0_33 rfl rfl dX0_addValue_31 ?_
  refine r_iload hC dX0_addValue_34 rfl ?_
  refine r_iconst hC dX0_addValue_36 ?_
  refine r_imul hC dX0_addValue_37 ?_
  refine r_iload hC dX0_addValue_38 rfl ?_
  refine r_iadd hC dX0_addValue_40 ?_
  refine r_iload hC dX0_addValue_41 rfl ?_
  obtain ⟨o6, hw⟩ := hw
  refine r_iast hC rfl o6.1.1 o6.1.2 (by decide) (by decide) o6.2.1 o6.2.2 dX0_addValue_43 ?_
  replace hw := hw _ rfl
  refine r_aload_n hC dX0_addValue_44 rfl rfl ?_
  refine r_getR hC 5 rfl (by decide) kf0_27 rfl rfl dX0_addValue_45 ?_
  refine r_iload hC dX0_addValue_48 rfl ?_
  refine r_iload hC dX0_addValue_50 rfl ?_
  refine r_iconst hC dX0_addValue_52 ?_
  refine r_iadd hC dX0_addValue_53 ?_
  obtain ⟨o8, hw⟩ := hw
  refine r_iast hC rfl o8.1.1 o8.1.2 (by decide) (by decide) o8.2.1 o8.2.2 dX0_addValue_54 ?_
  replace hw := hw _ rfl
  refine r_iload hC dX0_addValue_55 rfl ?_
  refine r_iconst hC dX0_addValue_57 ?_
  refine r_iadd hC dX0_addValue_58 ?_
  exact hQ _ _ _ _ dX0_addValue_59 hw
set_option maxRecDepth 100000 in
set_option maxHeartbeats 4000000 in
theorem d_Ground_addValue {l : Launch} {D : va_G} {aC : Nat → ClassId} {ad : Nat → Nat} {M : Mem} {x1 : Int} {x2 : Int} {x3 : Int} {x4 : Int} {Q : Int → Mem → Prop} (hw : w_Ground_addValue M x1 x2 x3 x4 Q) : Does l D aC ad yX0_addValue cX0_addValue 7 (some .int) 0 0 [vR 2, vI x1, vI x2, vI x3, vI x4] M (pI Q) :=
  Does.of (by decide) (Nat.le_of_ble_eq_true rfl) (fun p e R s m args below meth c hC => r_subk (s_Ground_addValue hC (fun pc L z M d h => r_iret hC d ⟨z, rfl, h⟩) hw) ⟨rfl, rfl, rfl, rfl, rfl, trivial⟩)
theorem dd_0_addValue : yX0_addValue.cls ≠ "java/lang/invoke/MethodHandle" ∧ yX0_addValue.cls ≠ "java/lang/invoke/VarHandle" ∧ (parseMethodDescriptor yX0_addValue.desc).map (fun d => d.parameters.length) = some 4 := by decide +kernel
/-- SoupSand$Ground.addLayer -/
def w_Ground_addLayer (M : Mem) (x1 : Int) (x2 : Int) (x3 : Int) (x4 : Int) (Q : Int → Mem → Prop) : Prop :=
  (0 ≤ x1 ∧ x1 < 6) ∧ (∀ a2 : Int, a2 = M 21 x1 → 0 ≤ a2 → a2 ≤ 6 → ((0 ≤ (x1 * 6) + a2 ∧ (x1 * 6) + a2 < 36) ∧ (0 ≤ x2 ∧ x2 ≤ 3)) ∧ (∀ M5 : Mem, M5 = mset M 22 ((x1 * 6) + a2) x2 → ((0 ≤ (x1 * 6) + a2 ∧ (x1 * 6) + a2 < 36) ∧ (0 ≤ x3 ∧ x3 ≤ 60)) ∧ (∀ M7 : Mem, M7 = mset M5 23 ((x1 * 6) + a2) x3 → ((0 ≤ x1 ∧ x1 < 6) ∧ (0 ≤ a2 + 1 ∧ a2 + 1 ≤ 6)) ∧ (∀ M9 : Mem, M9 = mset M7 21 x1 (a2 + 1) → w_Ground_addValue M9 x1 a2 x4 1 (fun a10 M11 => Q a2 M11)))))
set_option maxRecDepth 100000 in
set_option maxHeartbeats 4000000 in
theorem s_Ground_addLayer {M : Mem} {x1 : Int} {x2 : Int} {x3 : Int} {x4 : Int} {Q : Int → Mem → Prop} (hC : rC p R s m args meth c cells slots D aC ad 6 cX0_addLayer RX0 1 26 (some .int)) (hQ : ∀ (pc : Nat) (L : List (Nat × RV)) (z : Int) (M : Mem), decode cX0_addLayer pc = .ok (.ireturn, 1) → Q z M → rG p l e R s m args below meth c cells slots Qs D aC ad 6 pc L [vI z] M) (hw : w_Ground_addLayer M x1 x2 x3 x4 Q) : rG p l e R s m args below meth c cells slots Qs D aC ad 6 0 [(0, vR 2), (1, vI x1), (2, vI x2), (3, vI x3), (4, vI x4)] [] M := by
  unfold w_Ground_addLayer at hw
  refine r_aload_n hC dX0_addLayer_0 rfl rfl ?_
  refine r_getR hC 2 rfl (by decide) kf0_18 rfl rfl dX0_addLayer_1 ?_
  refine r_iload_n hC dX0_addLayer_4 rfl rfl ?_
  obtain ⟨o1, hw⟩ := hw
  refine r_iald hC rfl o1.1 o1.2 (by decide) (by decide) dX0_addLayer_5 (fun b3 b3' => ?_)
  replace hw := hw _ rfl b3 b3'
  refine r_istore hC dX0_addLayer_6 (by decide) ?_
  refine r_aload_n hC dX0_addLayer_8 rfl rfl ?_
  refine r_getR hC 3 rfl (by decide) kf0_21 rfl rfl dX0_addLayer_9 ?_
  refine r_iload_n hC dX0_addLayer_12 rfl rfl ?_
  refine r_bipush hC dX0_addLayer_13 (by decide) ?_
  refine r_imul hC dX0_addLayer_15 ?_
  refine r_iload hC dX0_addLayer_16 rfl ?_
  refine r_iadd hC dX0_addLayer_18 ?_
  refine r_iload_n hC dX0_addLayer_19 rfl rfl ?_
  obtain ⟨o4, hw⟩ := hw
  refine r_iast hC rfl o4.1.1 o4.1.2 (by decide) (by decide) o4.2.1 o4.2.2 dX0_addLayer_20 ?_
  replace hw := hw _ rfl
  refine r_aload_n hC dX0_addLayer_21 rfl rfl ?_
  refine r_getR hC 4 rfl (by decide) kf0_24 rfl rfl dX0_addLayer_22 ?_
  refine r_iload_n hC dX0_addLayer_25 rfl rfl ?_
  refine r_bipush hC dX0_addLayer_26 (by decide) ?_
  refine r_imul hC dX0_addLayer_28 ?_
  refine r_iload hC dX0_addLayer_29 rfl ?_
  refine r_iadd hC dX0_addLayer_31 ?_
  refine r_iload_n hC dX0_addLayer_32 rfl rfl ?_
  obtain ⟨o6, hw⟩ := hw
  refine r_iast hC rfl o6.1.1 o6.1.2 (by decide) (by decide) o6.2.1 o6.2.2 dX0_addLayer_33 ?_
  replace hw := hw _ rfl
  refine r_aload_n hC dX0_addLayer_34 rfl rfl ?_
  refine r_getR hC 2 rfl (by decide) kf0_18 rfl rfl dX0_addLayer_35 ?_
  refine r_iload_n hC dX0_addLayer_38 rfl rfl ?_
  refine r_iload hC dX0_addLayer_39 rfl ?_
  refine r_iconst hC dX0_addLayer_41 ?_
  refine r_iadd hC dX0_addLayer_42 ?_
  obtain ⟨o8, hw⟩ := hw
  refine r_iast hC rfl o8.1.1 o8.1.2 (by decide) (by decide) o8.2.1 o8.2.2 dX0_addLayer_43 ?_
  replace hw := hw _ rfl
  refine r_aload_n hC dX0_addLayer_44 rfl rfl ?_
  refine r_iload_n hC dX0_addLayer_45 rfl rfl ?_
  refine r_iload hC dX0_addLayer_46 rfl ?_
  refine r_iload hC dX0_addLayer_48 rfl ?_
  refine r_iconst hC dX0_addLayer_50 ?_
  refine r_callV hC (d_Ground_addValue hw) rfl kC0_addValue km0_40 kI0_addValue kS0_addValue kN0 dd_0_addValue ⟨Nat.le_of_ble_eq_true rfl, Nat.le_of_ble_eq_true rfl⟩ rfl (Nat.le_of_ble_eq_true rfl) dX0_addLayer_51 (fun r M' hp => ?_)
  obtain ⟨a10, rfl, hw⟩ := hp
  try dsimp only at hw
  refine r_pop hC dX0_addLayer_54 rfl ?_
  refine r_iload hC dX0_addLayer_55 rfl ?_
  exact hQ _ _ _ _ dX0_addLayer_57 hw
set_option maxRecDepth 100000 in
set_option maxHeartbeats 4000000 in
theorem d_Ground_addLayer {l : Launch} {D : va_G} {aC : Nat → ClassId} {ad : Nat → Nat} {M : Mem} {x1 : Int} {x2 : Int} {x3 : Int} {x4 : Int} {Q : Int → Mem → Prop} (hw : w_Ground_addLayer M x1 x2 x3 x4 Q) : Does l D aC ad yX0_addLayer cX0_addLayer 6 (some .int) 1 26 [vR 2, vI x1, vI x2, vI x3, vI x4] M (pI Q) :=
  Does.of (by decide) (Nat.le_of_ble_eq_true rfl) (fun p e R s m args below meth c hC => r_subk (s_Ground_addLayer hC (fun pc L z M d h => r_iret hC d ⟨z, rfl, h⟩) hw) ⟨rfl, rfl, rfl, rfl, rfl, trivial⟩)
theorem dd_0_addLayer : yX0_addLayer.cls ≠ "java/lang/invoke/MethodHandle" ∧ yX0_addLayer.cls ≠ "java/lang/invoke/VarHandle" ∧ (parseMethodDescriptor yX0_addLayer.desc).map (fun d => d.parameters.length) = some 4 := by decide +kernel
/-- SoupSand.layer -/
def w_S_layer (M : Mem) (x1 : Int) (x2 : Int) (x3 : Int) (x4 : Int) (Q : Int → Mem → Prop) : Prop :=
  w_Ground_hasColumn M x1 (fun a1 => (-2147483648 ≤ a1 ∧ a1 ≤ 2147483647) ∧ ((¬ (a1 = 0) → w_S_beyond M x2 0 3 (fun a5 => (-2147483648 ≤ a5 ∧ a5 ≤ 2147483647) ∧ ((¬ (a5 = 0) → Q (-1002) M) ∧ (a5 = 0 → w_S_beyond M x3 1 60 (fun a9 => (-2147483648 ≤ a9 ∧ a9 ≤ 2147483647) ∧ ((¬ (a9 = 0) → Q (-1002) M) ∧ (a9 = 0 → w_S_beyond M x4 0 100 (fun a13 => (-2147483648 ≤ a13 ∧ a13 ≤ 2147483647) ∧ ((a13 = 0 → (0 ≤ x1 ∧ x1 < 6) ∧ (∀ a18 : Int, a18 = M 21 x1 → 0 ≤ a18 → a18 ≤ 6 → (a18 < 6 → w_Words_forget M (fun M24 => w_Ground_addLayer M24 x1 x2 x3 x4 (fun a25 M26 => Q a25 M26))) ∧ (¬ (a18 < 6) → Q (-1004) M))) ∧ (¬ (a13 = 0) → Q (-1002) M)))))))))) ∧ (a1 = 0 → Q (-1001) M)))
set_option maxRecDepth 100000 in
set_option maxHeartbeats 4000000 in
theorem s_S_layer {M : Mem} {x1 : Int} {x2 : Int} {x3 : Int} {x4 : Int} {Q : Int → Mem → Prop} (hC : rC p R s m args meth c cells slots D aC ad 5 cX11_layer RX11 2 51 (some .int)) (hQ : ∀ (pc : Nat) (L : List (Nat × RV)) (z : Int) (M : Mem), decode cX11_layer pc = .ok (.ireturn, 1) → Q z M → rG p l e R s m args below meth c cells slots Qs D aC ad 5 pc L [vI z] M) (hw : w_S_layer M x1 x2 x3 x4 Q) : rG p l e R s m args below meth c cells slots Qs D aC ad 5 0 [(0, vR 0), (1, vI x1), (2, vI x2), (3, vI x3), (4, vI x4)] [] M := by
  unfold w_S_layer at hw
  refine r_aload_n hC dX11_layer_0 rfl rfl ?_
  refine r_getR hC 1 rfl (by decide) kf11_20 rfl rfl dX11_layer_1 ?_
  refine r_iload_n hC dX11_layer_4 rfl rfl ?_
  refine r_callV hC (d_Ground_hasColumn hw) rfl kC0_hasColumn km11_80 kI0_hasColumn kS0_hasColumn kN0 dd_0_hasColumn ⟨Nat.le_of_ble_eq_true rfl, Nat.le_of_ble_eq_true rfl⟩ rfl (Nat.le_of_ble_eq_true rfl) dX11_layer_5 (fun r M' hp => ?_)
  obtain ⟨rfl, a1, rfl, hw⟩ := hp
  try dsimp only at hw
  obtain ⟨o2, hw⟩ := hw
  obtain ⟨hwt, hwf⟩ := hw
  refine r_if_ne hC 15 dX11_layer_8 (by decide) o2.1 o2.2 (fun c4 => ?_) (fun c4 => ?_)
  · have hw := hwt c4
    refine r_iload_n hC dX11_layer_15 rfl rfl ?_
    refine r_iconst hC dX11_layer_16 ?_
    refine r_iconst hC dX11_layer_17 ?_
    refine r_callS hC (d_S_beyond hw) kC11_beyond km11_86 kT11_beyond kN11 dd_11_beyond ⟨Nat.le_of_ble_eq_true rfl, Nat.le_of_ble_eq_true rfl⟩ rfl (Nat.le_of_ble_eq_true rfl) dX11_layer_18 (fun r M' hp => ?_)
    obtain ⟨rfl, a5, rfl, hw⟩ := hp
    try dsimp only at hw
    obtain ⟨o6, hw⟩ := hw
    obtain ⟨hwt, hwf⟩ := hw
    refine r_if_ne hC 45 dX11_layer_21 (by decide) o6.1 o6.2 (fun c8 => ?_) (fun c8 => ?_)
    · have hw := hwt c8
      refine r_sipush hC dX11_layer_45 (by decide) ?_
      exact hQ _ _ _ _ dX11_layer_48 hw
    · have hw := hwf c8
      refine r_iload_n hC dX11_layer_24 rfl rfl ?_
      refine r_iconst hC dX11_layer_25 ?_
      refine r_bipush hC dX11_layer_26 (by decide) ?_
      refine r_callS hC (d_S_beyond hw) kC11_beyond km11_86 kT11_beyond kN11 dd_11_beyond ⟨Nat.le_of_ble_eq_true rfl, Nat.le_of_ble_eq_true rfl⟩ rfl (Nat.le_of_ble_eq_true rfl) dX11_layer_28 (fun r M' hp => ?_)
      obtain ⟨rfl, a9, rfl, hw⟩ := hp
      try dsimp only at hw
      obtain ⟨o10, hw⟩ := hw
      obtain ⟨hwt, hwf⟩ := hw
      refine r_if_ne hC 45 dX11_layer_31 (by decide) o10.1 o10.2 (fun c12 => ?_) (fun c12 => ?_)
      · have hw := hwt c12
        refine r_sipush hC dX11_layer_45 (by decide) ?_
        exact hQ _ _ _ _ dX11_layer_48 hw
      · have hw := hwf c12
        refine r_iload hC dX11_layer_34 rfl ?_
        refine r_iconst hC dX11_layer_36 ?_
        refine r_bipush hC dX11_layer_37 (by decide) ?_
        refine r_callS hC (d_S_beyond hw) kC11_beyond km11_86 kT11_beyond kN11 dd_11_beyond ⟨Nat.le_of_ble_eq_true rfl, Nat.le_of_ble_eq_true rfl⟩ rfl (Nat.le_of_ble_eq_true rfl) dX11_layer_39 (fun r M' hp => ?_)
        obtain ⟨rfl, a13, rfl, hw⟩ := hp
        try dsimp only at hw
        obtain ⟨o14, hw⟩ := hw
        obtain ⟨hwt, hwf⟩ := hw
        refine r_if_eq hC 49 dX11_layer_42 (by decide) o14.1 o14.2 (fun c16 => ?_) (fun c16 => ?_)
        · have hw := hwt c16
          refine r_aload_n hC dX11_layer_49 rfl rfl ?_
          refine r_getR hC 1 rfl (by decide) kf11_20 rfl rfl dX11_layer_50 ?_
          refine r_getR hC 2 rfl (by decide) kf11_100 rfl rfl dX11_layer_53 ?_
          refine r_iload_n hC dX11_layer_56 rfl rfl ?_
          obtain ⟨o17, hw⟩ := hw
          refine r_iald hC rfl o17.1 o17.2 (by decide) (by decide) dX11_layer_57 (fun b19 b19' => ?_)
          replace hw := hw _ rfl b19 b19'
          refine r_bipush hC dX11_layer_58 (by decide) ?_
          obtain ⟨hwt, hwf⟩ := hw
          refine r_icmp_lt hC 67 dX11_layer_60 (by decide) (by omega) (by omega) (by decide) (by decide) (fun c22 => ?_) (fun c22 => ?_)
          · have hw := hwt c22
            refine r_aload_n hC dX11_layer_67 rfl rfl ?_
            refine r_getR hC 4 rfl (by decide) kf11_34 rfl rfl dX11_layer_68 ?_
            refine r_callV hC (d_Words_forget hw) rfl kC9_forget km11_97 kI9_forget kS9_forget kN9 dd_9_forget ⟨Nat.le_of_ble_eq_true rfl, Nat.le_of_ble_eq_true rfl⟩ rfl (Nat.le_of_ble_eq_true rfl) dX11_layer_71 (fun r M' hp => ?_)
            obtain ⟨rfl, hw⟩ := hp
            try dsimp only at hw
            refine r_aload_n hC dX11_layer_74 rfl rfl ?_
            refine r_getR hC 1 rfl (by decide) kf11_20 rfl rfl dX11_layer_75 ?_
            refine r_iload_n hC dX11_layer_78 rfl rfl ?_
            refine r_iload_n hC dX11_layer_79 rfl rfl ?_
            refine r_iload_n hC dX11_layer_80 rfl rfl ?_
            refine r_iload hC dX11_layer_81 rfl ?_
            refine r_callV hC (d_Ground_addLayer hw) rfl kC0_addLayer km11_103 kI0_addLayer kS0_addLayer kN0 dd_0_addLayer ⟨Nat.le_of_ble_eq_true rfl, Nat.le_of_ble_eq_true rfl⟩ rfl (Nat.le_of_ble_eq_true rfl) dX11_layer_83 (fun r M' hp => ?_)
            obtain ⟨a25, rfl, hw⟩ := hp
            try dsimp only at hw
            exact hQ _ _ _ _ dX11_layer_86 hw
          · have hw := hwf c22
            refine r_sipush hC dX11_layer_63 (by decide) ?_
            exact hQ _ _ _ _ dX11_layer_66 hw
        · have hw := hwf c16
          refine r_sipush hC dX11_layer_45 (by decide) ?_
          exact hQ _ _ _ _ dX11_layer_48 hw
  · have hw := hwf c4
    refine r_sipush hC dX11_layer_11 (by decide) ?_
    exact hQ _ _ _ _ dX11_layer_14 hw
set_option maxRecDepth 100000 in
set_option maxHeartbeats 4000000 in
theorem d_S_layer {l : Launch} {D : va_G} {aC : Nat → ClassId} {ad : Nat → Nat} {M : Mem} {x1 : Int} {x2 : Int} {x3 : Int} {x4 : Int} {Q : Int → Mem → Prop} (hw : w_S_layer M x1 x2 x3 x4 Q) : Does l D aC ad yX11_layer cX11_layer 5 (some .int) 2 51 [vR 0, vI x1, vI x2, vI x3, vI x4] M (pI Q) :=
  Does.of (by decide) (Nat.le_of_ble_eq_true rfl) (fun p e R s m args below meth c hC => r_subk (s_S_layer hC (fun pc L z M d h => r_iret hC d ⟨z, rfl, h⟩) hw) ⟨rfl, rfl, rfl, rfl, rfl, trivial⟩)
/-- SoupSand$Ground.hasLayer -/
def w_Ground_hasLayer (M : Mem) (x1 : Int) (x2 : Int) (Q : Int → Prop) : Prop :=
  w_Ground_hasColumn M x1 (fun a1 => (-2147483648 ≤ a1 ∧ a1 ≤ 2147483647) ∧ ((a1 = 0 → Q 0) ∧ (¬ (a1 = 0) → (-2147483648 ≤ x2 ∧ x2 ≤ 2147483647) ∧ ((x2 < 0 → Q 0) ∧ (¬ (x2 < 0) → (0 ≤ x1 ∧ x1 < 6) ∧ (∀ a11 : Int, a11 = M 21 x1 → 0 ≤ a11 → a11 ≤ 6 → (-2147483648 ≤ x2 ∧ x2 ≤ 2147483647) ∧ ((a11 ≤ x2 → Q 0) ∧ (¬ (a11 ≤ x2) → Q 1))))))))
set_option maxRecDepth 100000 in
set_option maxHeartbeats 4000000 in
theorem s_Ground_hasLayer {M : Mem} {x1 : Int} {x2 : Int} {Q : Int → Prop} (hC : rC p R s m args meth c cells slots D aC ad 3 cX0_hasLayer RX0 1 21 (some .boolean)) (hQ : ∀ (pc : Nat) (L : List (Nat × RV)) (z : Int), decode cX0_hasLayer pc = .ok (.ireturn, 1) → 0 ≤ z → z ≤ 1 → Q z → rG p l e R s m args below meth c cells slots Qs D aC ad 3 pc L [vI z] M) (hw : w_Ground_hasLayer M x1 x2 Q) : rG p l e R s m args below meth c cells slots Qs D aC ad 3 0 [(0, vR 2), (1, vI x1), (2, vI x2)] [] M := by
  unfold w_Ground_hasLayer at hw
  refine r_aload_n hC dX0_hasLayer_0 rfl rfl ?_
  refine r_iload_n hC dX0_hasLayer_1 rfl rfl ?_
  refine r_callV hC (d_Ground_hasColumn hw) rfl kC0_hasColumn km0_36 kI0_hasColumn kS0_hasColumn kN0 dd_0_hasColumn ⟨Nat.le_of_ble_eq_true rfl, Nat.le_of_ble_eq_true rfl⟩ rfl (Nat.le_of_ble_eq_true rfl) dX0_hasLayer_2 (fun r M' hp => ?_)
  obtain ⟨rfl, a1, rfl, hw⟩ := hp
  try dsimp only at hw
  obtain ⟨o2, hw⟩ := hw
  obtain ⟨hwt, hwf⟩ := hw
  refine r_if_eq hC 26 dX0_hasLayer_5 (by decide) o2.1 o2.2 (fun c4 => ?_) (fun c4 => ?_)
  · have hw := hwt c4
    refine r_iconst hC dX0_hasLayer_26 ?_
    exact hQ _ _ _ dX0_hasLayer_27 (by decide) (by decide) hw
  · have hw := hwf c4
    refine r_iload_n hC dX0_hasLayer_8 rfl rfl ?_
    obtain ⟨o6, hw⟩ := hw
    obtain ⟨hwt, hwf⟩ := hw
    refine r_if_lt hC 26 dX0_hasLayer_9 (by decide) o6.1 o6.2 (fun c8 => ?_) (fun c8 => ?_)
    · have hw := hwt c8
      refine r_iconst hC dX0_hasLayer_26 ?_
      exact hQ _ _ _ dX0_hasLayer_27 (by decide) (by decide) hw
    · have hw := hwf c8
      refine r_iload_n hC dX0_hasLayer_12 rfl rfl ?_
      refine r_aload_n hC dX0_hasLayer_13 rfl rfl ?_
      refine r_getR hC 2 rfl (by decide) kf0_18 rfl rfl dX0_hasLayer_14 ?_
      refine r_iload_n hC dX0_hasLayer_17 rfl rfl ?_
      obtain ⟨o10, hw⟩ := hw
      refine r_iald hC rfl o10.1 o10.2 (by decide) (by decide) dX0_hasLayer_18 (fun b12 b12' => ?_)
      replace hw := hw _ rfl b12 b12'
      obtain ⟨o13, hw⟩ := hw
      obtain ⟨hwt, hwf⟩ := hw
      refine r_icmp_ge hC 26 dX0_hasLayer_19 (by decide) o13.1 o13.2 (by omega) (by omega) (fun c15 => ?_) (fun c15 => ?_)
      · have hw := hwt c15
        refine r_iconst hC dX0_hasLayer_26 ?_
        exact hQ _ _ _ dX0_hasLayer_27 (by decide) (by decide) hw
      · have hw := hwf c15
        refine r_iconst hC dX0_hasLayer_22 ?_
        refine r_goto hC 27 dX0_hasLayer_23 (by decide) ?_
        exact hQ _ _ _ dX0_hasLayer_27 (by decide) (by decide) hw
set_option maxRecDepth 100000 in
set_option maxHeartbeats 4000000 in
theorem d_Ground_hasLayer {l : Launch} {D : va_G} {aC : Nat → ClassId} {ad : Nat → Nat} {M : Mem} {x1 : Int} {x2 : Int} {Q : Int → Prop} (hw : w_Ground_hasLayer M x1 x2 Q) : Does l D aC ad yX0_hasLayer cX0_hasLayer 3 (some .boolean) 1 21 [vR 2, vI x1, vI x2] M (qI M Q) :=
  Does.of (by decide) (Nat.le_of_ble_eq_true rfl) (fun p e R s m args below meth c hC => r_subk (s_Ground_hasLayer hC (fun pc L z d z1 z2 h => r_zret hC d z1 z2 ⟨rfl, ⟨z, rfl, h⟩⟩) hw) ⟨rfl, rfl, rfl, trivial⟩)
/-- SoupSand$Ground.hasValue -/
def w_Ground_hasValue_B0 (Q : Int → Prop) (x3 : Int) (x4 : Int) (M : Mem) (X11 : Int → Prop) (x5 : Int) : Prop :=
  (0 ≤ x4 ∧ x4 < 36) ∧ (∀ a2 : Int, a2 = M 24 x4 → 0 ≤ a2 → a2 ≤ 3 → (-2147483648 ≤ x5 ∧ x5 ≤ 2147483647) ∧ ((a2 ≤ x5 → Q 0) ∧ (¬ (a2 ≤ x5) → (0 ≤ (x4 * 3) + x5 ∧ (x4 * 3) + x5 < 108) ∧ (∀ a9 : Int, a9 = M 25 ((x4 * 3) + x5) → 0 ≤ a9 → a9 ≤ 100 → (-2147483648 ≤ x3 ∧ x3 ≤ 2147483647) ∧ ((¬ (a9 = x3) → X11 (x5 + 1)) ∧ (a9 = x3 → Q 1))))))
set_option maxRecDepth 100000 in
set_option maxHeartbeats 4000000 in
theorem s_Ground_hasValue_B0 {Q : Int → Prop} {x3 : Int} {x4 : Int} {M : Mem} {X11 : Int → Prop} {x5 : Int} (hC : rC p R s m args meth c cells slots D aC ad 6 cX0_hasValue RX0 0 0 (some .boolean)) (hQ : ∀ (pc : Nat) (L : List (Nat × RV)) (z : Int), decode cX0_hasValue pc = .ok (.ireturn, 1) → 0 ≤ z → z ≤ 1 → Q z → rG p l e R s m args below meth c cells slots Qs D aC ad 6 pc L [vI z] M) (hX11 : ∀ (x5 : Int), X11 x5 → rG p l e R s m args below meth c cells slots Qs D aC ad 6 11 [(0, vR 2), (3, vI x3), (4, vI x4), (5, vI x5)] [] M) (hw : w_Ground_hasValue_B0 Q x3 x4 M X11 x5) : rG p l e R s m args below meth c cells slots Qs D aC ad 6 11 [(0, vR 2), (3, vI x3), (4, vI x4), (5, vI x5)] [] M := by
  unfold w_Ground_hasValue_B0 at hw
  refine r_iload hC dX0_hasValue_11 rfl ?_
  refine r_aload_n hC dX0_hasValue_13 rfl rfl ?_
  refine r_getR hC 5 rfl (by decide) kf0_27 rfl rfl dX0_hasValue_14 ?_
  refine r_iload hC dX0_hasValue_17 rfl ?_
  obtain ⟨o1, hw⟩ := hw
  refine r_iald hC rfl o1.1 o1.2 (by decide) (by decide) dX0_hasValue_19 (fun b3 b3' => ?_)
  replace hw := hw _ rfl b3 b3'
  obtain ⟨o4, hw⟩ := hw
  obtain ⟨hwt, hwf⟩ := hw
  refine r_icmp_ge hC 47 dX0_hasValue_20 (by decide) o4.1 o4.2 (by omega) (by omega) (fun c6 => ?_) (fun c6 => ?_)
  · have hw := hwt c6
    refine r_iconst hC dX0_hasValue_47 ?_
    exact hQ _ _ _ dX0_hasValue_48 (by decide) (by decide) hw
  · have hw := hwf c6
    refine r_aload_n hC dX0_hasValue_23 rfl rfl ?_
    refine r_getR hC 6 rfl (by decide) kf0_30 rfl rfl dX0_hasValue_24 ?_
    refine r_iload hC dX0_hasValue_27 rfl ?_
    refine r_iconst hC dX0_hasValue_29 ?_
    refine r_imul hC dX0_hasValue_30 ?_
    refine r_iload hC dX0_hasValue_31 rfl ?_
    refine r_iadd hC dX0_hasValue_33 ?_
    obtain ⟨o8, hw⟩ := hw
    refine r_iald hC rfl o8.1 o8.2 (by decide) (by decide) dX0_hasValue_34 (fun b10 b10' => ?_)
    replace hw := hw _ rfl b10 b10'
    refine r_iload_n hC dX0_hasValue_35 rfl rfl ?_
    obtain ⟨o12, hw⟩ := hw
    obtain ⟨hwt, hwf⟩ := hw
    refine r_icmp_ne hC 41 dX0_hasValue_36 (by decide) (by omega) (by omega) o12.1 o12.2 (fun c13 => ?_) (fun c13 => ?_)
    · have hw := hwt c13
      refine r_iinc hC dX0_hasValue_41 rfl (by decide) ?_
      refine r_goto hC 11 dX0_hasValue_44 (by decide) ?_
      exact r_subk (hX11 _ hw) ⟨rfl, rfl, rfl, rfl, trivial⟩
    · have hw := hwf c13
      refine r_iconst hC dX0_hasValue_39 ?_
      exact hQ _ _ _ dX0_hasValue_40 (by decide) (by decide) hw
def w_Ground_hasValue_L0 (Q : Int → Prop) (x3 : Int) (x4 : Int) (M : Mem) (x5 : Int) : Prop :=
  ∀ X : Int → Prop, (∀ (x5 : Int), w_Ground_hasValue_B0 Q x3 x4 M X x5 → X x5) → X x5
set_option maxRecDepth 100000 in
set_option maxHeartbeats 4000000 in
theorem s_Ground_hasValue_L0 {Q : Int → Prop} {x3 : Int} {x4 : Int} {M : Mem} {x5 : Int} (hC : rC p R s m args meth c cells slots D aC ad 6 cX0_hasValue RX0 0 0 (some .boolean)) (hQ : ∀ (pc : Nat) (L : List (Nat × RV)) (z : Int), decode cX0_hasValue pc = .ok (.ireturn, 1) → 0 ≤ z → z ≤ 1 → Q z → rG p l e R s m args below meth c cells slots Qs D aC ad 6 pc L [vI z] M) (hw : w_Ground_hasValue_L0 Q x3 x4 M x5) : rG p l e R s m args below meth c cells slots Qs D aC ad 6 11 [(0, vR 2), (3, vI x3), (4, vI x4), (5, vI x5)] [] M := by
  unfold w_Ground_hasValue_L0 at hw
  exact hw (fun x5 => rG p l e R s m args below meth c cells slots Qs D aC ad 6 11 [(0, vR 2), (3, vI x3), (4, vI x4), (5, vI x5)] [] M) (fun x5 hb => s_Ground_hasValue_B0 hC hQ (fun _ h => h) hb)
def w_Ground_hasValue (M : Mem) (x1 : Int) (x2 : Int) (x3 : Int) (Q : Int → Prop) : Prop :=
  w_Ground_hasValue_L0 Q x3 ((x1 * 6) + x2) M 0
set_option maxRecDepth 100000 in
set_option maxHeartbeats 4000000 in
theorem s_Ground_hasValue {M : Mem} {x1 : Int} {x2 : Int} {x3 : Int} {Q : Int → Prop} (hC : rC p R s m args meth c cells slots D aC ad 6 cX0_hasValue RX0 0 0 (some .boolean)) (hQ : ∀ (pc : Nat) (L : List (Nat × RV)) (z : Int), decode cX0_hasValue pc = .ok (.ireturn, 1) → 0 ≤ z → z ≤ 1 → Q z → rG p l e R s m args below meth c cells slots Qs D aC ad 6 pc L [vI z] M) (hw : w_Ground_hasValue M x1 x2 x3 Q) : rG p l e R s m args below meth c cells slots Qs D aC ad 6 0 [(0, vR 2), (1, vI x1), (2, vI x2), (3, vI x3)] [] M := by
  unfold w_Ground_hasValue at hw
  refine r_iload_n hC dX0_hasValue_0 rfl rfl ?_
  refine r_bipush hC dX0_hasValue_1 (by decide) ?_
  refine r_imul hC dX0_hasValue_3 ?_
  refine r_iload_n hC dX0_hasValue_4 rfl rfl ?_
  refine r_iadd hC dX0_hasValue_5 ?_
  refine r_istore hC dX0_hasValue_6 (by decide) ?_
  refine r_iconst hC dX0_hasValue_8 ?_
  refine r_istore hC dX0_hasValue_9 (by decide) ?_
  exact r_subk (s_Ground_hasValue_L0 hC hQ hw) ⟨rfl, rfl, rfl, rfl, trivial⟩
set_option maxRecDepth 100000 in
set_option maxHeartbeats 4000000 in
theorem d_Ground_hasValue {l : Launch} {D : va_G} {aC : Nat → ClassId} {ad : Nat → Nat} {M : Mem} {x1 : Int} {x2 : Int} {x3 : Int} {Q : Int → Prop} (hw : w_Ground_hasValue M x1 x2 x3 Q) : Does l D aC ad yX0_hasValue cX0_hasValue 6 (some .boolean) 0 0 [vR 2, vI x1, vI x2, vI x3] M (qI M Q) :=
  Does.of (by decide) (Nat.le_of_ble_eq_true rfl) (fun p e R s m args below meth c hC => r_subk (s_Ground_hasValue hC (fun pc L z d z1 z2 h => r_zret hC d z1 z2 ⟨rfl, ⟨z, rfl, h⟩⟩) hw) ⟨rfl, rfl, rfl, rfl, trivial⟩)
theorem dd_0_hasLayer : yX0_hasLayer.cls ≠ "java/lang/invoke/MethodHandle" ∧ yX0_hasLayer.cls ≠ "java/lang/invoke/VarHandle" ∧ (parseMethodDescriptor yX0_hasLayer.desc).map (fun d => d.parameters.length) = some 2 := by decide +kernel
theorem dd_0_hasValue : yX0_hasValue.cls ≠ "java/lang/invoke/MethodHandle" ∧ yX0_hasValue.cls ≠ "java/lang/invoke/VarHandle" ∧ (parseMethodDescriptor yX0_hasValue.desc).map (fun d => d.parameters.length) = some 3 := by decide +kernel
/-- SoupSand.loose -/
def w_S_loose (M : Mem) (x1 : Int) (x2 : Int) (x3 : Int) (x4 : Int) (Q : Int → Mem → Prop) : Prop :=
  w_Ground_hasLayer M x1 x2 (fun a1 => (-2147483648 ≤ a1 ∧ a1 ≤ 2147483647) ∧ ((¬ (a1 = 0) → w_S_beyond M x3 0 100 (fun a5 => (-2147483648 ≤ a5 ∧ a5 ≤ 2147483647) ∧ ((¬ (a5 = 0) → Q (-1002) M) ∧ (a5 = 0 → w_S_beyond M x4 1 9 (fun a9 => (-2147483648 ≤ a9 ∧ a9 ≤ 2147483647) ∧ ((a9 = 0 → w_Ground_hasValue M x1 x2 x3 (fun a13 => (-2147483648 ≤ a13 ∧ a13 ≤ 2147483647) ∧ ((a13 = 0 → (0 ≤ (x1 * 6) + x2 ∧ (x1 * 6) + x2 < 36) ∧ (∀ a18 : Int, a18 = M 24 ((x1 * 6) + x2) → 0 ≤ a18 → a18 ≤ 3 → (a18 < 3 → w_Words_forget M (fun M24 => w_Ground_addValue M24 x1 x2 x3 x4 (fun a25 M26 => Q a25 M26))) ∧ (¬ (a18 < 3) → Q (-1004) M))) ∧ (¬ (a13 = 0) → Q (-1003) M)))) ∧ (¬ (a9 = 0) → Q (-1002) M))))))) ∧ (a1 = 0 → Q (-1001) M)))
set_option maxRecDepth 100000 in
set_option maxHeartbeats 4000000 in
theorem s_S_loose {M : Mem} {x1 : Int} {x2 : Int} {x3 : Int} {x4 : Int} {Q : Int → Mem → Prop} (hC : rC p R s m args meth c cells slots D aC ad 5 cX11_loose RX11 2 43 (some .int)) (hQ : ∀ (pc : Nat) (L : List (Nat × RV)) (z : Int) (M : Mem), decode cX11_loose pc = .ok (.ireturn, 1) → Q z M → rG p l e R s m args below meth c cells slots Qs D aC ad 5 pc L [vI z] M) (hw : w_S_loose M x1 x2 x3 x4 Q) : rG p l e R s m args below meth c cells slots Qs D aC ad 5 0 [(0, vR 0), (1, vI x1), (2, vI x2), (3, vI x3), (4, vI x4)] [] M := by
  unfold w_S_loose at hw
  refine r_aload_n hC dX11_loose_0 rfl rfl ?_
  refine r_getR hC 1 rfl (by decide) kf11_20 rfl rfl dX11_loose_1 ?_
  refine r_iload_n hC dX11_loose_4 rfl rfl ?_
  refine r_iload_n hC dX11_loose_5 rfl rfl ?_
  refine r_callV hC (d_Ground_hasLayer hw) rfl kC0_hasLayer km11_107 kI0_hasLayer kS0_hasLayer kN0 dd_0_hasLayer ⟨Nat.le_of_ble_eq_true rfl, Nat.le_of_ble_eq_true rfl⟩ rfl (Nat.le_of_ble_eq_true rfl) dX11_loose_6 (fun r M' hp => ?_)
  obtain ⟨rfl, a1, rfl, hw⟩ := hp
  try dsimp only at hw
  obtain ⟨o2, hw⟩ := hw
  obtain ⟨hwt, hwf⟩ := hw
  refine r_if_ne hC 16 dX11_loose_9 (by decide) o2.1 o2.2 (fun c4 => ?_) (fun c4 => ?_)
  · have hw := hwt c4
    refine r_iload_n hC dX11_loose_16 rfl rfl ?_
    refine r_iconst hC dX11_loose_17 ?_
    refine r_bipush hC dX11_loose_18 (by decide) ?_
    refine r_callS hC (d_S_beyond hw) kC11_beyond km11_86 kT11_beyond kN11 dd_11_beyond ⟨Nat.le_of_ble_eq_true rfl, Nat.le_of_ble_eq_true rfl⟩ rfl (Nat.le_of_ble_eq_true rfl) dX11_loose_20 (fun r M' hp => ?_)
    obtain ⟨rfl, a5, rfl, hw⟩ := hp
    try dsimp only at hw
    obtain ⟨o6, hw⟩ := hw
    obtain ⟨hwt, hwf⟩ := hw
    refine r_if_ne hC 37 dX11_loose_23 (by decide) o6.1 o6.2 (fun c8 => ?_) (fun c8 => ?_)
    · have hw := hwt c8
      refine r_sipush hC dX11_loose_37 (by decide) ?_
      exact hQ _ _ _ _ dX11_loose_40 hw
    · have hw := hwf c8
      refine r_iload hC dX11_loose_26 rfl ?_
      refine r_iconst hC dX11_loose_28 ?_
      refine r_bipush hC dX11_loose_29 (by decide) ?_
      refine r_callS hC (d_S_beyond hw) kC11_beyond km11_86 kT11_beyond kN11 dd_11_beyond ⟨Nat.le_of_ble_eq_true rfl, Nat.le_of_ble_eq_true rfl⟩ rfl (Nat.le_of_ble_eq_true rfl) dX11_loose_31 (fun r M' hp => ?_)
      obtain ⟨rfl, a9, rfl, hw⟩ := hp
      try dsimp only at hw
      obtain ⟨o10, hw⟩ := hw
      obtain ⟨hwt, hwf⟩ := hw
      refine r_if_eq hC 41 dX11_loose_34 (by decide) o10.1 o10.2 (fun c12 => ?_) (fun c12 => ?_)
      · have hw := hwt c12
        refine r_aload_n hC dX11_loose_41 rfl rfl ?_
        refine r_getR hC 1 rfl (by decide) kf11_20 rfl rfl dX11_loose_42 ?_
        refine r_iload_n hC dX11_loose_45 rfl rfl ?_
        refine r_iload_n hC dX11_loose_46 rfl rfl ?_
        refine r_iload_n hC dX11_loose_47 rfl rfl ?_
        refine r_callV hC (d_Ground_hasValue hw) rfl kC0_hasValue km11_111 kI0_hasValue kS0_hasValue kN0 dd_0_hasValue ⟨Nat.le_of_ble_eq_true rfl, Nat.le_of_ble_eq_true rfl⟩ rfl (Nat.le_of_ble_eq_true rfl) dX11_loose_48 (fun r M' hp => ?_)
        obtain ⟨rfl, a13, rfl, hw⟩ := hp
        try dsimp only at hw
        obtain ⟨o14, hw⟩ := hw
        obtain ⟨hwt, hwf⟩ := hw
        refine r_if_eq hC 58 dX11_loose_51 (by decide) o14.1 o14.2 (fun c16 => ?_) (fun c16 => ?_)
        · have hw := hwt c16
          refine r_aload_n hC dX11_loose_58 rfl rfl ?_
          refine r_getR hC 1 rfl (by decide) kf11_20 rfl rfl dX11_loose_59 ?_
          refine r_getR hC 5 rfl (by decide) kf11_114 rfl rfl dX11_loose_62 ?_
          refine r_iload_n hC dX11_loose_65 rfl rfl ?_
          refine r_bipush hC dX11_loose_66 (by decide) ?_
          refine r_imul hC dX11_loose_68 ?_
          refine r_iload_n hC dX11_loose_69 rfl rfl ?_
          refine r_iadd hC dX11_loose_70 ?_
          obtain ⟨o17, hw⟩ := hw
          refine r_iald hC rfl o17.1 o17.2 (by decide) (by decide) dX11_loose_71 (fun b19 b19' => ?_)
          replace hw := hw _ rfl b19 b19'
          refine r_iconst hC dX11_loose_72 ?_
          obtain ⟨hwt, hwf⟩ := hw
          refine r_icmp_lt hC 80 dX11_loose_73 (by decide) (by omega) (by omega) (by decide) (by decide) (fun c22 => ?_) (fun c22 => ?_)
          · have hw := hwt c22
            refine r_aload_n hC dX11_loose_80 rfl rfl ?_
            refine r_getR hC 4 rfl (by decide) kf11_34 rfl rfl dX11_loose_81 ?_
            refine r_callV hC (d_Words_forget hw) rfl kC9_forget km11_97 kI9_forget kS9_forget kN9 dd_9_forget ⟨Nat.le_of_ble_eq_true rfl, Nat.le_of_ble_eq_true rfl⟩ rfl (Nat.le_of_ble_eq_true rfl) dX11_loose_84 (fun r M' hp => ?_)
            obtain ⟨rfl, hw⟩ := hp
            try dsimp only at hw
            refine r_aload_n hC dX11_loose_87 rfl rfl ?_
            refine r_getR hC 1 rfl (by decide) kf11_20 rfl rfl dX11_loose_88 ?_
            refine r_iload_n hC dX11_loose_91 rfl rfl ?_
            refine r_iload_n hC dX11_loose_92 rfl rfl ?_
            refine r_iload_n hC dX11_loose_93 rfl rfl ?_
            refine r_iload hC dX11_loose_94 rfl ?_
            refine r_callV hC (d_Ground_addValue hw) rfl kC0_addValue km11_117 kI0_addValue kS0_addValue kN0 dd_0_addValue ⟨Nat.le_of_ble_eq_true rfl, Nat.le_of_ble_eq_true rfl⟩ rfl (Nat.le_of_ble_eq_true rfl) dX11_loose_96 (fun r M' hp => ?_)
            obtain ⟨a25, rfl, hw⟩ := hp
            try dsimp only at hw
            exact hQ _ _ _ _ dX11_loose_99 hw
          · have hw := hwf c22
            refine r_sipush hC dX11_loose_76 (by decide) ?_
            exact hQ _ _ _ _ dX11_loose_79 hw
        · have hw := hwf c16
          refine r_sipush hC dX11_loose_54 (by decide) ?_
          exact hQ _ _ _ _ dX11_loose_57 hw
      · have hw := hwf c12
        refine r_sipush hC dX11_loose_37 (by decide) ?_
        exact hQ _ _ _ _ dX11_loose_40 hw
  · have hw := hwf c4
    refine r_sipush hC dX11_loose_12 (by decide) ?_
    exact hQ _ _ _ _ dX11_loose_15 hw
set_option maxRecDepth 100000 in
set_option maxHeartbeats 4000000 in
theorem d_S_loose {l : Launch} {D : va_G} {aC : Nat → ClassId} {ad : Nat → Nat} {M : Mem} {x1 : Int} {x2 : Int} {x3 : Int} {x4 : Int} {Q : Int → Mem → Prop} (hw : w_S_loose M x1 x2 x3 x4 Q) : Does l D aC ad yX11_loose cX11_loose 5 (some .int) 2 43 [vR 0, vI x1, vI x2, vI x3, vI x4] M (pI Q) :=
  Does.of (by decide) (Nat.le_of_ble_eq_true rfl) (fun p e R s m args below meth c hC => r_subk (s_S_loose hC (fun pc L z M d h => r_iret hC d ⟨z, rfl, h⟩) hw) ⟨rfl, rfl, rfl, rfl, rfl, trivial⟩)
/-- SoupSand$Ground.depthOf -/
def w_Ground_depthOf_B0 (Q : Int → Prop) (x1 : Int) (x2 : Int) (M : Mem) (X5 : Int → Int → Prop) (x3 : Int) (x4 : Int) : Prop :=
  (-2147483648 ≤ x4 ∧ x4 ≤ 2147483647) ∧ ((-2147483648 ≤ x2 ∧ x2 ≤ 2147483647) ∧ ((x2 ≤ x4 → Q x3) ∧ (¬ (x2 ≤ x4) → (0 ≤ (x1 * 6) + x4 ∧ (x1 * 6) + x4 < 36) ∧ (∀ a5 : Int, a5 = M 23 ((x1 * 6) + x4) → 0 ≤ a5 → a5 ≤ 60 → X5 (x3 + a5) (x4 + 1)))))
set_option maxRecDepth 100000 in
set_option maxHeartbeats 4000000 in
theorem s_Ground_depthOf_B0 {Q : Int → Prop} {x1 : Int} {x2 : Int} {M : Mem} {X5 : Int → Int → Prop} {x3 : Int} {x4 : Int} (hC : rC p R s m args meth c cells slots D aC ad 5 cX0_depthOf RX0 0 0 (some .int)) (hQ : ∀ (pc : Nat) (L : List (Nat × RV)) (z : Int), decode cX0_depthOf pc = .ok (.ireturn, 1) → Q z → rG p l e R s m args below meth c cells slots Qs D aC ad 5 pc L [vI z] M) (hX5 : ∀ (x3 : Int) (x4 : Int), X5 x3 x4 → rG p l e R s m args below meth c cells slots Qs D aC ad 5 5 [(0, vR 2), (1, vI x1), (2, vI x2), (3, vI x3), (4, vI x4)] [] M) (hw : w_Ground_depthOf_B0 Q x1 x2 M X5 x3 x4) : rG p l e R s m args below meth c cells slots Qs D aC ad 5 5 [(0, vR 2), (1, vI x1), (2, vI x2), (3, vI x3), (4, vI x4)] [] M := by
  unfold w_Ground_depthOf_B0 at hw
  refine r_iload hC dX0_depthOf_5 rfl ?_
  refine r_iload_n hC dX0_depthOf_7 rfl rfl ?_
  obtain ⟨o1, hw⟩ := hw
  obtain ⟨o2, hw⟩ := hw
  obtain ⟨hwt, hwf⟩ := hw
  refine r_icmp_ge hC 32 dX0_depthOf_8 (by decide) o1.1 o1.2 o2.1 o2.2 (fun c3 => ?_) (fun c3 => ?_)
  · have hw := hwt c3
    refine r_iload_n hC dX0_depthOf_32 rfl rfl ?_
    exact hQ _ _ _ dX0_depthOf_33 hw
  · have hw := hwf c3
    refine r_iload_n hC dX0_depthOf_11 rfl rfl ?_
    refine r_aload_n hC dX0_depthOf_12 rfl rfl ?_
    refine r_getR hC 4 rfl (by decide) kf0_24 rfl rfl dX0_depthOf_13 ?_
    refine r_iload_n hC dX0_depthOf_16 rfl rfl ?_
    refine r_bipush hC dX0_depthOf_17 (by decide) ?_
    refine r_imul hC dX0_depthOf_19 ?_
    refine r_iload hC dX0_depthOf_20 rfl ?_
    refine r_iadd hC dX0_depthOf_22 ?_
    obtain ⟨o4, hw⟩ := hw
    refine r_iald hC rfl o4.1 o4.2 (by decide) (by decide) dX0_depthOf_23 (fun b6 b6' => ?_)
    replace hw := hw _ rfl b6 b6'
    refine r_iadd hC dX0_depthOf_24 ?_
    refine r_istore_n hC dX0_depthOf_25 rfl (by decide) ?_
    refine r_iinc hC dX0_depthOf_26 rfl (by decide) ?_
    refine r_goto hC 5 dX0_depthOf_29 (by decide) ?_
    exact r_subk (hX5 _ _ hw) ⟨rfl, rfl, rfl, rfl, rfl, trivial⟩
def w_Ground_depthOf_L0 (Q : Int → Prop) (x1 : Int) (x2 : Int) (M : Mem) (x3 : Int) (x4 : Int) : Prop :=
  ∀ X : Int → Int → Prop, (∀ (x3 : Int) (x4 : Int), w_Ground_depthOf_B0 Q x1 x2 M X x3 x4 → X x3 x4) → X x3 x4
set_option maxRecDepth 100000 in
set_option maxHeartbeats 4000000 in
theorem s_Ground_depthOf_L0 {Q : Int → Prop} {x1 : Int} {x2 : Int} {M : Mem} {x3 : Int} {x4 : Int} (hC : rC p R s m args meth c cells slots D aC ad 5 cX0_depthOf RX0 0 0 (some .int)) (hQ : ∀ (pc : Nat) (L : List (Nat × RV)) (z : Int), decode cX0_depthOf pc = .ok (.ireturn, 1) → Q z → rG p l e R s m args below meth c cells slots Qs D aC ad 5 pc L [vI z] M) (hw : w_Ground_depthOf_L0 Q x1 x2 M x3 x4) : rG p l e R s m args below meth c cells slots Qs D aC ad 5 5 [(0, vR 2), (1, vI x1), (2, vI x2), (3, vI x3), (4, vI x4)] [] M := by
  unfold w_Ground_depthOf_L0 at hw
  exact hw (fun x3 x4 => rG p l e R s m args below meth c cells slots Qs D aC ad 5 5 [(0, vR 2), (1, vI x1), (2, vI x2), (3, vI x3), (4, vI x4)] [] M) (fun x3 x4 hb => s_Ground_depthOf_B0 hC hQ (fun _ _ h => h) hb)
def w_Ground_depthOf (M : Mem) (x1 : Int) (x2 : Int) (Q : Int → Prop) : Prop :=
  w_Ground_depthOf_L0 Q x1 x2 M 0 0
set_option maxRecDepth 100000 in
set_option maxHeartbeats 4000000 in
theorem s_Ground_depthOf {M : Mem} {x1 : Int} {x2 : Int} {Q : Int → Prop} (hC : rC p R s m args meth c cells slots D aC ad 5 cX0_depthOf RX0 0 0 (some .int)) (hQ : ∀ (pc : Nat) (L : List (Nat × RV)) (z : Int), decode cX0_depthOf pc = .ok (.ireturn, 1) → Q z → rG p l e R s m args below meth c cells slots Qs D aC ad 5 pc L [vI z] M) (hw : w_Ground_depthOf M x1 x2 Q) : rG p l e R s m args below meth c cells slots Qs D aC ad 5 0 [(0, vR 2), (1, vI x1), (2, vI x2)] [] M := by
  unfold w_Ground_depthOf at hw
  refine r_iconst hC dX0_depthOf_0 ?_
  refine r_istore_n hC dX0_depthOf_1 rfl (by decide) ?_
  refine r_iconst hC dX0_depthOf_2 ?_
  refine r_istore hC dX0_depthOf_3 (by decide) ?_
  exact r_subk (s_Ground_depthOf_L0 hC hQ hw) ⟨rfl, rfl, rfl, rfl, rfl, trivial⟩
set_option maxRecDepth 100000 in
set_option maxHeartbeats 4000000 in
theorem d_Ground_depthOf {l : Launch} {D : va_G} {aC : Nat → ClassId} {ad : Nat → Nat} {M : Mem} {x1 : Int} {x2 : Int} {Q : Int → Prop} (hw : w_Ground_depthOf M x1 x2 Q) : Does l D aC ad yX0_depthOf cX0_depthOf 5 (some .int) 0 0 [vR 2, vI x1, vI x2] M (qI M Q) :=
  Does.of (by decide) (Nat.le_of_ble_eq_true rfl) (fun p e R s m args below meth c hC => r_subk (s_Ground_depthOf hC (fun pc L z d h => r_iret hC d ⟨rfl, ⟨z, rfl, h⟩⟩) hw) ⟨rfl, rfl, rfl, trivial⟩)
theorem dd_0_depthOf : yX0_depthOf.cls ≠ "java/lang/invoke/MethodHandle" ∧ yX0_depthOf.cls ≠ "java/lang/invoke/VarHandle" ∧ (parseMethodDescriptor yX0_depthOf.desc).map (fun d => d.parameters.length) = some 2 := by decide +kernel
/-- SoupSand$Ground.isWet -/
def w_Ground_isWet (M : Mem) (x1 : Int) (x2 : Int) (Q : Int → Prop) : Prop :=
  w_Ground_depthOf M x1 x2 (fun a1 => (0 ≤ x1 ∧ x1 < 6) ∧ (∀ a3 : Int, a3 = M 20 x1 → 0 ≤ a3 → a3 ≤ 400 → (-2147483648 ≤ a1 ∧ a1 ≤ 2147483647) ∧ ((a1 < a3 → Q 0) ∧ (¬ (a1 < a3) → Q 1))))
set_option maxRecDepth 100000 in
set_option maxHeartbeats 4000000 in
theorem s_Ground_isWet {M : Mem} {x1 : Int} {x2 : Int} {Q : Int → Prop} (hC : rC p R s m args meth c cells slots D aC ad 3 cX0_isWet RX0 1 24 (some .boolean)) (hQ : ∀ (pc : Nat) (L : List (Nat × RV)) (z : Int), decode cX0_isWet pc = .ok (.ireturn, 1) → 0 ≤ z → z ≤ 1 → Q z → rG p l e R s m args below meth c cells slots Qs D aC ad 3 pc L [vI z] M) (hw : w_Ground_isWet M x1 x2 Q) : rG p l e R s m args below meth c cells slots Qs D aC ad 3 0 [(0, vR 2), (1, vI x1), (2, vI x2)] [] M := by
  unfold w_Ground_isWet at hw
  refine r_aload_n hC dX0_isWet_0 rfl rfl ?_
  refine r_iload_n hC dX0_isWet_1 rfl rfl ?_
  refine r_iload_n hC dX0_isWet_2 rfl rfl ?_
  refine r_callV hC (d_Ground_depthOf hw) rfl kC0_depthOf km0_44 kI0_depthOf kS0_depthOf kN0 dd_0_depthOf ⟨Nat.le_of_ble_eq_true rfl, Nat.le_of_ble_eq_true rfl⟩ rfl (Nat.le_of_ble_eq_true rfl) dX0_isWet_3 (fun r M' hp => ?_)
  obtain ⟨rfl, a1, rfl, hw⟩ := hp
  try dsimp only at hw
  refine r_aload_n hC dX0_isWet_6 rfl rfl ?_
  refine r_getR hC 1 rfl (by decide) kf0_15 rfl rfl dX0_isWet_7 ?_
  refine r_iload_n hC dX0_isWet_10 rfl rfl ?_
  obtain ⟨o2, hw⟩ := hw
  refine r_iald hC rfl o2.1 o2.2 (by decide) (by decide) dX0_isWet_11 (fun b4 b4' => ?_)
  replace hw := hw _ rfl b4 b4'
  obtain ⟨o5, hw⟩ := hw
  obtain ⟨hwt, hwf⟩ := hw
  refine r_icmp_lt hC 19 dX0_isWet_12 (by decide) o5.1 o5.2 (by omega) (by omega) (fun c7 => ?_) (fun c7 => ?_)
  · have hw := hwt c7
    refine r_iconst hC dX0_isWet_19 ?_
    exact hQ _ _ _ dX0_isWet_20 (by decide) (by decide) hw
  · have hw := hwf c7
    refine r_iconst hC dX0_isWet_15 ?_
    refine r_goto hC 20 dX0_isWet_16 (by decide) ?_
    exact hQ _ _ _ dX0_isWet_20 (by decide) (by decide) hw
set_option maxRecDepth 100000 in
set_option maxHeartbeats 4000000 in
theorem d_Ground_isWet {l : Launch} {D : va_G} {aC : Nat → ClassId} {ad : Nat → Nat} {M : Mem} {x1 : Int} {x2 : Int} {Q : Int → Prop} (hw : w_Ground_isWet M x1 x2 Q) : Does l D aC ad yX0_isWet cX0_isWet 3 (some .boolean) 1 24 [vR 2, vI x1, vI x2] M (qI M Q) :=
  Does.of (by decide) (Nat.le_of_ble_eq_true rfl) (fun p e R s m args below meth c hC => r_subk (s_Ground_isWet hC (fun pc L z d z1 z2 h => r_zret hC d z1 z2 ⟨rfl, ⟨z, rfl, h⟩⟩) hw) ⟨rfl, rfl, rfl, trivial⟩)
/-- SoupSand$Rules.unitWeight -/
def w_Rules_unitWeight (M : Mem) (x1 : Int) (Q : Int → Prop) : Prop :=
  (-2147483648 ≤ x1 ∧ x1 ≤ 2147483647) ∧ ((x1 = 0 → ∀ a5 : Int, a5 = M 30 20 → 0 ≤ a5 → a5 ≤ 999 → Q a5) ∧ (¬ (x1 = 0) → ∀ a8 : Int, a8 = M 30 21 → 0 ≤ a8 → a8 ≤ 999 → Q a8))
set_option maxRecDepth 100000 in
set_option maxHeartbeats 4000000 in
theorem s_Rules_unitWeight {M : Mem} {x1 : Int} {Q : Int → Prop} (hC : rC p R s m args meth c cells slots D aC ad 2 cX3_unitWeight RX3 0 0 (some .int)) (hQ : ∀ (pc : Nat) (L : List (Nat × RV)) (z : Int), decode cX3_unitWeight pc = .ok (.ireturn, 1) → Q z → rG p l e R s m args below meth c cells slots Qs D aC ad 2 pc L [vI z] M) (hw : w_Rules_unitWeight M x1 Q) : rG p l e R s m args below meth c cells slots Qs D aC ad 2 0 [(0, vR 4), (1, vI x1)] [] M := by
  unfold w_Rules_unitWeight at hw
  refine r_iload_n hC dX3_unitWeight_0 rfl rfl ?_
  obtain ⟨o1, hw⟩ := hw
  obtain ⟨hwt, hwf⟩ := hw
  refine r_if_eq hC 14 dX3_unitWeight_1 (by decide) o1.1 o1.2 (fun c3 => ?_) (fun c3 => ?_)
  · have hw := hwt c3
    refine r_aload_n hC dX3_unitWeight_14 rfl rfl ?_
    refine r_getR hC 0 rfl (by decide) kf3_9 rfl rfl dX3_unitWeight_15 ?_
    refine r_bipush hC dX3_unitWeight_18 (by decide) ?_
    refine r_iald hC rfl (by decide) (by decide) (by decide) (by decide) dX3_unitWeight_20 (fun b6 b6' => ?_)
    replace hw := hw _ rfl b6 b6'
    exact hQ _ _ _ dX3_unitWeight_21 hw
  · have hw := hwf c3
    refine r_aload_n hC dX3_unitWeight_4 rfl rfl ?_
    refine r_getR hC 0 rfl (by decide) kf3_9 rfl rfl dX3_unitWeight_5 ?_
    refine r_bipush hC dX3_unitWeight_8 (by decide) ?_
    refine r_iald hC rfl (by decide) (by decide) (by decide) (by decide) dX3_unitWeight_10 (fun b9 b9' => ?_)
    replace hw := hw _ rfl b9 b9'
    refine r_goto hC 21 dX3_unitWeight_11 (by decide) ?_
    exact hQ _ _ _ dX3_unitWeight_21 hw
set_option maxRecDepth 100000 in
set_option maxHeartbeats 4000000 in
theorem d_Rules_unitWeight {l : Launch} {D : va_G} {aC : Nat → ClassId} {ad : Nat → Nat} {M : Mem} {x1 : Int} {Q : Int → Prop} (hw : w_Rules_unitWeight M x1 Q) : Does l D aC ad yX3_unitWeight cX3_unitWeight 2 (some .int) 0 0 [vR 4, vI x1] M (qI M Q) :=
  Does.of (by decide) (Nat.le_of_ble_eq_true rfl) (fun p e R s m args below meth c hC => r_subk (s_Rules_unitWeight hC (fun pc L z d h => r_iret hC d ⟨rfl, ⟨z, rfl, h⟩⟩) hw) ⟨rfl, rfl, trivial⟩)
theorem dd_3_unitWeight : yX3_unitWeight.cls ≠ "java/lang/invoke/MethodHandle" ∧ yX3_unitWeight.cls ≠ "java/lang/invoke/VarHandle" ∧ (parseMethodDescriptor yX3_unitWeight.desc).map (fun d => d.parameters.length) = some 1 := by decide +kernel
/-- SoupSand$Ground.holdOf -/
def w_Ground_holdOf_j1 (Q : Int → Prop) (X9 : Int → Int → Int → Prop) (x1 : Int) (x2 : Int) (x4 : Int) (x6 : Int) (x7 : Int) (s0 : Int) (s1 : Int) (M : Mem) : Prop :=
  X9 (x4 + x7) (s0 + s1) (x6 + 1)
set_option maxRecDepth 100000 in
set_option maxHeartbeats 4000000 in
theorem s_Ground_holdOf_j1 {Q : Int → Prop} {X9 : Int → Int → Int → Prop} {x1 : Int} {x2 : Int} {x4 : Int} {x6 : Int} {x7 : Int} {s0 : Int} {s1 : Int} {M : Mem} (hC : rC p R s m args meth c cells slots D aC ad 9 cX0_holdOf RX0 1 21 (some .int)) (hQ : ∀ (pc : Nat) (L : List (Nat × RV)) (z : Int), decode cX0_holdOf pc = .ok (.ireturn, 1) → Q z → rG p l e R s m args below meth c cells slots Qs D aC ad 9 pc L [vI z] M) (hX9 : ∀ (x4 : Int) (x5 : Int) (x6 : Int), X9 x4 x5 x6 → rG p l e R s m args below meth c cells slots Qs D aC ad 9 9 [(0, vR 2), (1, vI x1), (2, vI x2), (3, vR 4), (4, vI x4), (5, vI x5), (6, vI x6)] [] M) (hw : w_Ground_holdOf_j1 Q X9 x1 x2 x4 x6 x7 s0 s1 M) : rG p l e R s m args below meth c cells slots Qs D aC ad 9 71 [(0, vR 2), (1, vI x1), (2, vI x2), (3, vR 4), (4, vI x4), (6, vI x6), (7, vI x7)] [vI s1, vI s0] M := by
  unfold w_Ground_holdOf_j1 at hw
  refine r_iadd hC dX0_holdOf_71 ?_
  refine r_istore hC dX0_holdOf_72 (by decide) ?_
  refine r_iload hC dX0_holdOf_74 rfl ?_
  refine r_iload hC dX0_holdOf_76 rfl ?_
  refine r_iadd hC dX0_holdOf_78 ?_
  refine r_istore hC dX0_holdOf_79 (by decide) ?_
  refine r_iinc hC dX0_holdOf_81 rfl (by decide) ?_
  refine r_goto hC 9 dX0_holdOf_84 (by decide) ?_
  exact r_subk (hX9 _ _ _ hw) ⟨rfl, rfl, rfl, rfl, rfl, rfl, rfl, trivial⟩
def w_Ground_holdOf_j0 (Q : Int → Prop) (X9 : Int → Int → Int → Prop) (x1 : Int) (x2 : Int) (x4 : Int) (x5 : Int) (x6 : Int) (x7 : Int) (s0 : Int) (s2 : Int) (M : Mem) : Prop :=
  w_Rules_unitWeight M s2 (fun a1 => (-2147483648 ≤ x6 ∧ x6 ≤ 2147483647) ∧ ((-2147483648 ≤ x2 ∧ x2 ≤ 2147483647) ∧ ((x2 ≤ x6 → (0 ≤ s0 * a1 ∧ s0 * a1 ≤ 2147483647) ∧ (w_Ground_holdOf_j1 Q X9 x1 x2 x4 x6 x7 x5 ((s0 * a1) / 2) M)) ∧ (¬ (x2 ≤ x6) → w_Ground_holdOf_j1 Q X9 x1 x2 x4 x6 x7 x5 (s0 * a1) M))))
set_option maxRecDepth 100000 in
set_option maxHeartbeats 4000000 in
theorem s_Ground_holdOf_j0 {Q : Int → Prop} {X9 : Int → Int → Int → Prop} {x1 : Int} {x2 : Int} {x4 : Int} {x5 : Int} {x6 : Int} {x7 : Int} {s0 : Int} {s2 : Int} {M : Mem} (hC : rC p R s m args meth c cells slots D aC ad 9 cX0_holdOf RX0 1 21 (some .int)) (hQ : ∀ (pc : Nat) (L : List (Nat × RV)) (z : Int), decode cX0_holdOf pc = .ok (.ireturn, 1) → Q z → rG p l e R s m args below meth c cells slots Qs D aC ad 9 pc L [vI z] M) (hX9 : ∀ (x4 : Int) (x5 : Int) (x6 : Int), X9 x4 x5 x6 → rG p l e R s m args below meth c cells slots Qs D aC ad 9 9 [(0, vR 2), (1, vI x1), (2, vI x2), (3, vR 4), (4, vI x4), (5, vI x5), (6, vI x6)] [] M) (hw : w_Ground_holdOf_j0 Q X9 x1 x2 x4 x5 x6 x7 s0 s2 M) : rG p l e R s m args below meth c cells slots Qs D aC ad 9 48 [(0, vR 2), (1, vI x1), (2, vI x2), (3, vR 4), (4, vI x4), (5, vI x5), (6, vI x6), (7, vI x7)] [vI s2, vR 4, vI s0] M := by
  unfold w_Ground_holdOf_j0 at hw
  refine r_callV hC (d_Rules_unitWeight hw) rfl kC3_unitWeight km0_48 kI3_unitWeight kS3_unitWeight kN3 dd_3_unitWeight ⟨Nat.le_of_ble_eq_true rfl, Nat.le_of_ble_eq_true rfl⟩ rfl (Nat.le_of_ble_eq_true rfl) dX0_holdOf_48 (fun r M' hp => ?_)
  obtain ⟨rfl, a1, rfl, hw⟩ := hp
  try dsimp only at hw
  refine r_imul hC dX0_holdOf_51 ?_
  refine r_istore hC dX0_holdOf_52 (by decide) ?_
  refine r_iload hC dX0_holdOf_54 rfl ?_
  refine r_iload hC dX0_holdOf_56 rfl ?_
  refine r_iload_n hC dX0_holdOf_58 rfl rfl ?_
  obtain ⟨o2, hw⟩ := hw
  obtain ⟨o3, hw⟩ := hw
  obtain ⟨hwt, hwf⟩ := hw
  refine r_icmp_ge hC 67 dX0_holdOf_59 (by decide) o2.1 o2.2 o3.1 o3.2 (fun c4 => ?_) (fun c4 => ?_)
  · have hw := hwt c4
    refine r_iload hC dX0_holdOf_67 rfl ?_
    refine r_iconst hC dX0_holdOf_69 ?_
    obtain ⟨o5, hw⟩ := hw
    refine r_idiv hC dX0_holdOf_70 o5.1 o5.2 (by decide) (by decide) ?_
    exact r_subk (s_Ground_holdOf_j1 hC hQ hX9 hw) ⟨rfl, rfl, rfl, rfl, rfl, rfl, rfl, trivial⟩
  · have hw := hwf c4
    refine r_iload hC dX0_holdOf_62 rfl ?_
    refine r_goto hC 71 dX0_holdOf_64 (by decide) ?_
    exact r_subk (s_Ground_holdOf_j1 hC hQ hX9 hw) ⟨rfl, rfl, rfl, rfl, rfl, rfl, rfl, trivial⟩
def w_Ground_holdOf_B0 (Q : Int → Prop) (x1 : Int) (x2 : Int) (M : Mem) (X9 : Int → Int → Int → Prop) (x4 : Int) (x5 : Int) (x6 : Int) : Prop :=
  (-2147483648 ≤ x6 ∧ x6 ≤ 2147483647) ∧ ((-2147483648 ≤ x2 ∧ x2 ≤ 2147483647) ∧ ((x2 < x6 → (-2147483648 ≤ x5 ∧ x5 ≤ 2147483647) ∧ (Q (max 1 x5))) ∧ (¬ (x2 < x6) → (0 ≤ (x1 * 6) + x6 ∧ (x1 * 6) + x6 < 36) ∧ (∀ a7 : Int, a7 = M 23 ((x1 * 6) + x6) → 0 ≤ a7 → a7 ≤ 60 → (0 ≤ x1 ∧ x1 < 6) ∧ (∀ a10 : Int, a10 = M 20 x1 → 0 ≤ a10 → a10 ≤ 400 → (-2147483648 ≤ x4 ∧ x4 ≤ 2147483647) ∧ ((x4 < a10 → w_Ground_holdOf_j0 Q X9 x1 x2 x4 x5 x6 a7 a7 0 M) ∧ (¬ (x4 < a10) → w_Ground_holdOf_j0 Q X9 x1 x2 x4 x5 x6 a7 a7 1 M)))))))
set_option maxRecDepth 100000 in
set_option maxHeartbeats 4000000 in
theorem s_Ground_holdOf_B0 {Q : Int → Prop} {x1 : Int} {x2 : Int} {M : Mem} {X9 : Int → Int → Int → Prop} {x4 : Int} {x5 : Int} {x6 : Int} (hC : rC p R s m args meth c cells slots D aC ad 9 cX0_holdOf RX0 1 21 (some .int)) (hQ : ∀ (pc : Nat) (L : List (Nat × RV)) (z : Int), decode cX0_holdOf pc = .ok (.ireturn, 1) → Q z → rG p l e R s m args below meth c cells slots Qs D aC ad 9 pc L [vI z] M) (hX9 : ∀ (x4 : Int) (x5 : Int) (x6 : Int), X9 x4 x5 x6 → rG p l e R s m args below meth c cells slots Qs D aC ad 9 9 [(0, vR 2), (1, vI x1), (2, vI x2), (3, vR 4), (4, vI x4), (5, vI x5), (6, vI x6)] [] M) (hw : w_Ground_holdOf_B0 Q x1 x2 M X9 x4 x5 x6) : rG p l e R s m args below meth c cells slots Qs D aC ad 9 9 [(0, vR 2), (1, vI x1), (2, vI x2), (3, vR 4), (4, vI x4), (5, vI x5), (6, vI x6)] [] M := by
  unfold w_Ground_holdOf_B0 at hw
  refine r_iload hC dX0_holdOf_9 rfl ?_
  refine r_iload_n hC dX0_holdOf_11 rfl rfl ?_
  obtain ⟨o1, hw⟩ := hw
  obtain ⟨o2, hw⟩ := hw
  obtain ⟨hwt, hwf⟩ := hw
  refine r_icmp_gt hC 87 dX0_holdOf_12 (by decide) o1.1 o1.2 o2.1 o2.2 (fun c3 => ?_) (fun c3 => ?_)
  · have hw := hwt c3
    refine r_iconst hC dX0_holdOf_87 ?_
    refine r_iload hC dX0_holdOf_88 rfl ?_
    obtain ⟨o5, hw⟩ := hw
    refine r_max hC km0_54 (by decide) (Nat.le_of_ble_eq_true rfl) dX0_holdOf_90 (by decide) (by decide) o5.1 o5.2 ?_
    exact hQ _ _ _ dX0_holdOf_93 hw
  · have hw := hwf c3
    refine r_aload_n hC dX0_holdOf_15 rfl rfl ?_
    refine r_getR hC 4 rfl (by decide) kf0_24 rfl rfl dX0_holdOf_16 ?_
    refine r_iload_n hC dX0_holdOf_19 rfl rfl ?_
    refine r_bipush hC dX0_holdOf_20 (by decide) ?_
    refine r_imul hC dX0_holdOf_22 ?_
    refine r_iload hC dX0_holdOf_23 rfl ?_
    refine r_iadd hC dX0_holdOf_25 ?_
    obtain ⟨o6, hw⟩ := hw
    refine r_iald hC rfl o6.1 o6.2 (by decide) (by decide) dX0_holdOf_26 (fun b8 b8' => ?_)
    replace hw := hw _ rfl b8 b8'
    refine r_istore hC dX0_holdOf_27 (by decide) ?_
    refine r_iload hC dX0_holdOf_29 rfl ?_
    refine r_aload_n hC dX0_holdOf_31 rfl rfl ?_
    refine r_iload hC dX0_holdOf_32 rfl ?_
    refine r_aload_n hC dX0_holdOf_34 rfl rfl ?_
    refine r_getR hC 1 rfl (by decide) kf0_15 rfl rfl dX0_holdOf_35 ?_
    refine r_iload_n hC dX0_holdOf_38 rfl rfl ?_
    obtain ⟨o9, hw⟩ := hw
    refine r_iald hC rfl o9.1 o9.2 (by decide) (by decide) dX0_holdOf_39 (fun b11 b11' => ?_)
    replace hw := hw _ rfl b11 b11'
    obtain ⟨o12, hw⟩ := hw
    obtain ⟨hwt, hwf⟩ := hw
    refine r_icmp_lt hC 47 dX0_holdOf_40 (by decide) o12.1 o12.2 (by omega) (by omega) (fun c14 => ?_) (fun c14 => ?_)
    · have hw := hwt c14
      refine r_iconst hC dX0_holdOf_47 ?_
      exact r_subk (s_Ground_holdOf_j0 hC hQ hX9 hw) ⟨rfl, rfl, rfl, rfl, rfl, rfl, rfl, rfl, trivial⟩
    · have hw := hwf c14
      refine r_iconst hC dX0_holdOf_43 ?_
      refine r_goto hC 48 dX0_holdOf_44 (by decide) ?_
      exact r_subk (s_Ground_holdOf_j0 hC hQ hX9 hw) ⟨rfl, rfl, rfl, rfl, rfl, rfl, rfl, rfl, trivial⟩
def w_Ground_holdOf_L0 (Q : Int → Prop) (x1 : Int) (x2 : Int) (M : Mem) (x4 : Int) (x5 : Int) (x6 : Int) : Prop :=
  ∀ X : Int → Int → Int → Prop, (∀ (x4 : Int) (x5 : Int) (x6 : Int), w_Ground_holdOf_B0 Q x1 x2 M X x4 x5 x6 → X x4 x5 x6) → X x4 x5 x6
set_option maxRecDepth 100000 in
set_option maxHeartbeats 4000000 in
theorem s_Ground_holdOf_L0 {Q : Int → Prop} {x1 : Int} {x2 : Int} {M : Mem} {x4 : Int} {x5 : Int} {x6 : Int} (hC : rC p R s m args meth c cells slots D aC ad 9 cX0_holdOf RX0 1 21 (some .int)) (hQ : ∀ (pc : Nat) (L : List (Nat × RV)) (z : Int), decode cX0_holdOf pc = .ok (.ireturn, 1) → Q z → rG p l e R s m args below meth c cells slots Qs D aC ad 9 pc L [vI z] M) (hw : w_Ground_holdOf_L0 Q x1 x2 M x4 x5 x6) : rG p l e R s m args below meth c cells slots Qs D aC ad 9 9 [(0, vR 2), (1, vI x1), (2, vI x2), (3, vR 4), (4, vI x4), (5, vI x5), (6, vI x6)] [] M := by
  unfold w_Ground_holdOf_L0 at hw
  exact hw (fun x4 x5 x6 => rG p l e R s m args below meth c cells slots Qs D aC ad 9 9 [(0, vR 2), (1, vI x1), (2, vI x2), (3, vR 4), (4, vI x4), (5, vI x5), (6, vI x6)] [] M) (fun x4 x5 x6 hb => s_Ground_holdOf_B0 hC hQ (fun _ _ _ h => h) hb)
def w_Ground_holdOf (M : Mem) (x1 : Int) (x2 : Int) (Q : Int → Prop) : Prop :=
  w_Ground_holdOf_L0 Q x1 x2 M 0 0 0
set_option maxRecDepth 100000 in
set_option maxHeartbeats 4000000 in
theorem s_Ground_holdOf {M : Mem} {x1 : Int} {x2 : Int} {Q : Int → Prop} (hC : rC p R s m args meth c cells slots D aC ad 9 cX0_holdOf RX0 1 21 (some .int)) (hQ : ∀ (pc : Nat) (L : List (Nat × RV)) (z : Int), decode cX0_holdOf pc = .ok (.ireturn, 1) → Q z → rG p l e R s m args below meth c cells slots Qs D aC ad 9 pc L [vI z] M) (hw : w_Ground_holdOf M x1 x2 Q) : rG p l e R s m args below meth c cells slots Qs D aC ad 9 0 [(0, vR 2), (1, vI x1), (2, vI x2), (3, vR 4)] [] M := by
  unfold w_Ground_holdOf at hw
  refine r_iconst hC dX0_holdOf_0 ?_
  refine r_istore hC dX0_holdOf_1 (by decide) ?_
  refine r_iconst hC dX0_holdOf_3 ?_
  refine r_istore hC dX0_holdOf_4 (by decide) ?_
  refine r_iconst hC dX0_holdOf_6 ?_
  refine r_istore hC dX0_holdOf_7 (by decide) ?_
  exact r_subk (s_Ground_holdOf_L0 hC hQ hw) ⟨rfl, rfl, rfl, rfl, rfl, rfl, rfl, trivial⟩
set_option maxRecDepth 100000 in
set_option maxHeartbeats 4000000 in
theorem d_Ground_holdOf {l : Launch} {D : va_G} {aC : Nat → ClassId} {ad : Nat → Nat} {M : Mem} {x1 : Int} {x2 : Int} {Q : Int → Prop} (hw : w_Ground_holdOf M x1 x2 Q) : Does l D aC ad yX0_holdOf cX0_holdOf 9 (some .int) 1 21 [vR 2, vI x1, vI x2, vR 4] M (qI M Q) :=
  Does.of (by decide) (Nat.le_of_ble_eq_true rfl) (fun p e R s m args below meth c hC => r_subk (s_Ground_holdOf hC (fun pc L z d h => r_iret hC d ⟨rfl, ⟨z, rfl, h⟩⟩) hw) ⟨rfl, rfl, rfl, rfl, trivial⟩)
theorem dd_0_holdOf : yX0_holdOf.cls ≠ "java/lang/invoke/MethodHandle" ∧ yX0_holdOf.cls ≠ "java/lang/invoke/VarHandle" ∧ (parseMethodDescriptor yX0_holdOf.desc).map (fun d => d.parameters.length) = some 3 := by decide +kernel
theorem dd_0_isWet : yX0_isWet.cls ≠ "java/lang/invoke/MethodHandle" ∧ yX0_isWet.cls ≠ "java/lang/invoke/VarHandle" ∧ (parseMethodDescriptor yX0_isWet.desc).map (fun d => d.parameters.length) = some 2 := by decide +kernel
/-- SoupSand.about -/
def w_S_about (M : Mem) (x1 : Int) (x2 : Int) (x3 : Int) (Q : Int → Prop) : Prop :=
  w_Ground_hasLayer M x1 x2 (fun a1 => (-2147483648 ≤ a1 ∧ a1 ≤ 2147483647) ∧ ((¬ (a1 = 0) → (-2147483648 ≤ x3 ∧ x3 ≤ 2147483647) ∧ (((x3 < 0 ∨ 5 < x3) → Q (-1002)) ∧ (x3 = 0 → (0 ≤ (x1 * 6) + x2 ∧ (x1 * 6) + x2 < 36) ∧ (∀ a8 : Int, a8 = M 22 ((x1 * 6) + x2) → 0 ≤ a8 → a8 ≤ 3 → Q a8)) ∧ (x3 = 1 → (0 ≤ (x1 * 6) + x2 ∧ (x1 * 6) + x2 < 36) ∧ (∀ a11 : Int, a11 = M 23 ((x1 * 6) + x2) → 0 ≤ a11 → a11 ≤ 60 → Q a11)) ∧ (x3 = 2 → (0 ≤ (x1 * 6) + x2 ∧ (x1 * 6) + x2 < 36) ∧ (∀ a14 : Int, a14 = M 24 ((x1 * 6) + x2) → 0 ≤ a14 → a14 ≤ 3 → Q a14)) ∧ (x3 = 3 → w_Ground_depthOf M x1 x2 (fun a16 => Q a16)) ∧ (x3 = 4 → w_Ground_isWet M x1 x2 (fun a17 => (-2147483648 ≤ a17 ∧ a17 ≤ 2147483647) ∧ ((a17 = 0 → Q 0) ∧ (¬ (a17 = 0) → Q 1)))) ∧ (x3 = 5 → w_Ground_holdOf M x1 x2 (fun a21 => Q a21)))) ∧ (a1 = 0 → Q (-1001))))
set_option maxRecDepth 100000 in
set_option maxHeartbeats 4000000 in
theorem s_S_about {M : Mem} {x1 : Int} {x2 : Int} {x3 : Int} {Q : Int → Prop} (hC : rC p R s m args meth c cells slots D aC ad 4 cX11_about RX11 2 49 (some .int)) (hQ : ∀ (pc : Nat) (L : List (Nat × RV)) (z : Int), decode cX11_about pc = .ok (.ireturn, 1) → Q z → rG p l e R s m args below meth c cells slots Qs D aC ad 4 pc L [vI z] M) (hw : w_S_about M x1 x2 x3 Q) : rG p l e R s m args below meth c cells slots Qs D aC ad 4 0 [(0, vR 0), (1, vI x1), (2, vI x2), (3, vI x3)] [] M := by
  unfold w_S_about at hw
  refine r_aload_n hC dX11_about_0 rfl rfl ?_
  refine r_getR hC 1 rfl (by decide) kf11_20 rfl rfl dX11_about_1 ?_
  refine r_iload_n hC dX11_about_4 rfl rfl ?_
  refine r_iload_n hC dX11_about_5 rfl rfl ?_
  refine r_callV hC (d_Ground_hasLayer hw) rfl kC0_hasLayer km11_107 kI0_hasLayer kS0_hasLayer kN0 dd_0_hasLayer ⟨Nat.le_of_ble_eq_true rfl, Nat.le_of_ble_eq_true rfl⟩ rfl (Nat.le_of_ble_eq_true rfl) dX11_about_6 (fun r M' hp => ?_)
  obtain ⟨rfl, a1, rfl, hw⟩ := hp
  try dsimp only at hw
  obtain ⟨o2, hw⟩ := hw
  obtain ⟨hwt, hwf⟩ := hw
  refine r_if_ne hC 16 dX11_about_9 (by decide) o2.1 o2.2 (fun c4 => ?_) (fun c4 => ?_)
  · have hw := hwt c4
    refine r_iload_n hC dX11_about_16 rfl rfl ?_
    obtain ⟨o5, hw⟩ := hw
    obtain ⟨hd, h0, h1, h2, h3, h4, h5⟩ := hw
    refine r_tsw hC dX11_about_17 o5.1 o5.2 143 (by decide) (fun c6 => ?_) (fun n hn hn2 => ?_)
    · have hw := hd c6
      refine r_sipush hC dX11_about_143 (by decide) ?_
      exact hQ _ _ _ dX11_about_146 hw
    · have hlt : n < 6 := by omega
      match n, hlt with
      | 0, _ =>
        refine ⟨_, 56, rfl, by decide, ?_⟩
        have hw := h0 (by omega)
        refine r_aload_n hC dX11_about_56 rfl rfl ?_
        refine r_getR hC 1 rfl (by decide) kf11_20 rfl rfl dX11_about_57 ?_
        refine r_getR hC 3 rfl (by decide) kf11_120 rfl rfl dX11_about_60 ?_
        refine r_iload_n hC dX11_about_63 rfl rfl ?_
        refine r_bipush hC dX11_about_64 (by decide) ?_
        refine r_imul hC dX11_about_66 ?_
        refine r_iload_n hC dX11_about_67 rfl rfl ?_
        refine r_iadd hC dX11_about_68 ?_
        obtain ⟨o7, hw⟩ := hw
        refine r_iald hC rfl o7.1 o7.2 (by decide) (by decide) dX11_about_69 (fun b9 b9' => ?_)
        replace hw := hw _ rfl b9 b9'
        exact hQ _ _ _ dX11_about_70 hw
      | 1, _ =>
        refine ⟨_, 71, rfl, by decide, ?_⟩
        have hw := h1 (by omega)
        refine r_aload_n hC dX11_about_71 rfl rfl ?_
        refine r_getR hC 1 rfl (by decide) kf11_20 rfl rfl dX11_about_72 ?_
        refine r_getR hC 4 rfl (by decide) kf11_123 rfl rfl dX11_about_75 ?_
        refine r_iload_n hC dX11_about_78 rfl rfl ?_
        refine r_bipush hC dX11_about_79 (by decide) ?_
        refine r_imul hC dX11_about_81 ?_
        refine r_iload_n hC dX11_about_82 rfl rfl ?_
        refine r_iadd hC dX11_about_83 ?_
        obtain ⟨o10, hw⟩ := hw
        refine r_iald hC rfl o10.1 o10.2 (by decide) (by decide) dX11_about_84 (fun b12 b12' => ?_)
        replace hw := hw _ rfl b12 b12'
        exact hQ _ _ _ dX11_about_85 hw
      | 2, _ =>
        refine ⟨_, 86, rfl, by decide, ?_⟩
        have hw := h2 (by omega)
        refine r_aload_n hC dX11_about_86 rfl rfl ?_
        refine r_getR hC 1 rfl (by decide) kf11_20 rfl rfl dX11_about_87 ?_
        refine r_getR hC 5 rfl (by decide) kf11_114 rfl rfl dX11_about_90 ?_
        refine r_iload_n hC dX11_about_93 rfl rfl ?_
        refine r_bipush hC dX11_about_94 (by decide) ?_
        refine r_imul hC dX11_about_96 ?_
        refine r_iload_n hC dX11_about_97 rfl rfl ?_
        refine r_iadd hC dX11_about_98 ?_
        obtain ⟨o13, hw⟩ := hw
        refine r_iald hC rfl o13.1 o13.2 (by decide) (by decide) dX11_about_99 (fun b15 b15' => ?_)
        replace hw := hw _ rfl b15 b15'
        exact hQ _ _ _ dX11_about_100 hw
      | 3, _ =>
        refine ⟨_, 101, rfl, by decide, ?_⟩
        have hw := h3 (by omega)
        refine r_aload_n hC dX11_about_101 rfl rfl ?_
        refine r_getR hC 1 rfl (by decide) kf11_20 rfl rfl dX11_about_102 ?_
        refine r_iload_n hC dX11_about_105 rfl rfl ?_
        refine r_iload_n hC dX11_about_106 rfl rfl ?_
        refine r_callV hC (d_Ground_depthOf hw) rfl kC0_depthOf km11_126 kI0_depthOf kS0_depthOf kN0 dd_0_depthOf ⟨Nat.le_of_ble_eq_true rfl, Nat.le_of_ble_eq_true rfl⟩ rfl (Nat.le_of_ble_eq_true rfl) dX11_about_107 (fun r M' hp => ?_)
        obtain ⟨rfl, a16, rfl, hw⟩ := hp
        try dsimp only at hw
        exact hQ _ _ _ dX11_about_110 hw
      | 4, _ =>
        refine ⟨_, 111, rfl, by decide, ?_⟩
        have hw := h4 (by omega)
        refine r_aload_n hC dX11_about_111 rfl rfl ?_
        refine r_getR hC 1 rfl (by decide) kf11_20 rfl rfl dX11_about_112 ?_
        refine r_iload_n hC dX11_about_115 rfl rfl ?_
        refine r_iload_n hC dX11_about_116 rfl rfl ?_
        refine r_callV hC (d_Ground_isWet hw) rfl kC0_isWet km11_130 kI0_isWet kS0_isWet kN0 dd_0_isWet ⟨Nat.le_of_ble_eq_true rfl, Nat.le_of_ble_eq_true rfl⟩ rfl (Nat.le_of_ble_eq_true rfl) dX11_about_117 (fun r M' hp => ?_)
        obtain ⟨rfl, a17, rfl, hw⟩ := hp
        try dsimp only at hw
        obtain ⟨o18, hw⟩ := hw
        obtain ⟨hwt, hwf⟩ := hw
        refine r_if_eq hC 127 dX11_about_120 (by decide) o18.1 o18.2 (fun c20 => ?_) (fun c20 => ?_)
        · have hw := hwt c20
          refine r_iconst hC dX11_about_127 ?_
          exact hQ _ _ _ dX11_about_128 hw
        · have hw := hwf c20
          refine r_iconst hC dX11_about_123 ?_
          refine r_goto hC 128 dX11_about_124 (by decide) ?_
          exact hQ _ _ _ dX11_about_128 hw
      | 5, _ =>
        refine ⟨_, 129, rfl, by decide, ?_⟩
        have hw := h5 (by omega)
        refine r_aload_n hC dX11_about_129 rfl rfl ?_
        refine r_getR hC 1 rfl (by decide) kf11_20 rfl rfl dX11_about_130 ?_
        refine r_iload_n hC dX11_about_133 rfl rfl ?_
        refine r_iload_n hC dX11_about_134 rfl rfl ?_
        refine r_aload_n hC dX11_about_135 rfl rfl ?_
        refine r_getR hC 3 rfl (by decide) kf11_30 rfl rfl dX11_about_136 ?_
        refine r_callV hC (d_Ground_holdOf hw) rfl kC0_holdOf km11_133 kI0_holdOf kS0_holdOf kN0 dd_0_holdOf ⟨Nat.le_of_ble_eq_true rfl, Nat.le_of_ble_eq_true rfl⟩ rfl (Nat.le_of_ble_eq_true rfl) dX11_about_139 (fun r M' hp => ?_)
        obtain ⟨rfl, a21, rfl, hw⟩ := hp
        try dsimp only at hw
        exact hQ _ _ _ dX11_about_142 hw
      | n + 6, h => exact absurd h (by omega)
  · have hw := hwf c4
    refine r_sipush hC dX11_about_12 (by decide) ?_
    exact hQ _ _ _ dX11_about_15 hw
set_option maxRecDepth 100000 in
set_option maxHeartbeats 4000000 in
theorem d_S_about {l : Launch} {D : va_G} {aC : Nat → ClassId} {ad : Nat → Nat} {M : Mem} {x1 : Int} {x2 : Int} {x3 : Int} {Q : Int → Prop} (hw : w_S_about M x1 x2 x3 Q) : Does l D aC ad yX11_about cX11_about 4 (some .int) 2 49 [vR 0, vI x1, vI x2, vI x3] M (qI M Q) :=
  Does.of (by decide) (Nat.le_of_ble_eq_true rfl) (fun p e R s m args below meth c hC => r_subk (s_S_about hC (fun pc L z d h => r_iret hC d ⟨rfl, ⟨z, rfl, h⟩⟩) hw) ⟨rfl, rfl, rfl, rfl, trivial⟩)
/-- SoupSand$Shakes.addShake -/
def w_Shakes_addShake (M : Mem) (x1 : Int) (Q : Int → Mem → Prop) : Prop :=
  ∀ a1 : Int, a1 = M 3 3 → 0 ≤ a1 → a1 ≤ 6 → ((0 ≤ a1 ∧ a1 < 6) ∧ (0 ≤ x1 ∧ x1 ≤ 1000)) ∧ (∀ M4 : Mem, M4 = mset M 27 a1 x1 → ∀ a5 : Int, a5 = M4 3 3 → 0 ≤ a5 → a5 ≤ 6 → (0 ≤ a5 + 1 ∧ a5 + 1 ≤ 6) ∧ (∀ M8 : Mem, M8 = mset M4 3 3 (a5 + 1) → ∀ a9 : Int, a9 = M8 3 3 → 0 ≤ a9 → a9 ≤ 6 → Q (a9 - 1) M8))
set_option maxRecDepth 100000 in
set_option maxHeartbeats 4000000 in
theorem s_Shakes_addShake {M : Mem} {x1 : Int} {Q : Int → Mem → Prop} (hC : rC p R s m args meth c cells slots D aC ad 2 cX4_addShake RX4 0 0 (some .int)) (hQ : ∀ (pc : Nat) (L : List (Nat × RV)) (z : Int) (M : Mem), decode cX4_addShake pc = .ok (.ireturn, 1) → Q z M → rG p l e R s m args below meth c cells slots Qs D aC ad 2 pc L [vI z] M) (hw : w_Shakes_addShake M x1 Q) : rG p l e R s m args below meth c cells slots Qs D aC ad 2 0 [(0, vR 3), (1, vI x1)] [] M := by
  unfold w_Shakes_addShake at hw
  refine r_aload_n hC dX4_addShake_0 rfl rfl ?_
  refine r_getR hC 0 rfl (by decide) kf4_9 rfl rfl dX4_addShake_1 ?_
  refine r_aload_n hC dX4_addShake_4 rfl rfl ?_
  refine r_getI hC 3 rfl (by decide) kf4_21 rfl rfl dX4_addShake_5 (fun b2 b2' => ?_)
  replace hw := hw _ rfl b2 b2'
  refine r_iload_n hC dX4_addShake_8 rfl rfl ?_
  obtain ⟨o3, hw⟩ := hw
  refine r_iast hC rfl o3.1.1 o3.1.2 (by decide) (by decide) o3.2.1 o3.2.2 dX4_addShake_9 ?_
  replace hw := hw _ rfl
  refine r_aload_n hC dX4_addShake_10 rfl rfl ?_
  refine r_dup hC dX4_addShake_11 rfl ?_
  refine r_getI hC 3 rfl (by decide) kf4_21 rfl rfl dX4_addShake_12 (fun b6 b6' => ?_)
  replace hw := hw _ rfl b6 b6'
  refine r_iconst hC dX4_addShake_15 ?_
  refine r_iadd hC dX4_addShake_16 ?_
  obtain ⟨o7, hw⟩ := hw
  refine r_putI hC 3 rfl (by decide) kf4_21 rfl rfl o7.1 o7.2 dX4_addShake_17 ?_
  replace hw := hw _ rfl
  refine r_aload_n hC dX4_addShake_20 rfl rfl ?_
  refine r_getI hC 3 rfl (by decide) kf4_21 rfl rfl dX4_addShake_21 (fun b10 b10' => ?_)
  replace hw := hw _ rfl b10 b10'
  refine r_iconst hC dX4_addShake_24 ?_
  refine r_isub hC dX4_addShake_25 ?_
  exact hQ _ _ _ _ dX4_addShake_26 hw
set_option maxRecDepth 100000 in
set_option maxHeartbeats 4000000 in
theorem d_Shakes_addShake {l : Launch} {D : va_G} {aC : Nat → ClassId} {ad : Nat → Nat} {M : Mem} {x1 : Int} {Q : Int → Mem → Prop} (hw : w_Shakes_addShake M x1 Q) : Does l D aC ad yX4_addShake cX4_addShake 2 (some .int) 0 0 [vR 3, vI x1] M (pI Q) :=
  Does.of (by decide) (Nat.le_of_ble_eq_true rfl) (fun p e R s m args below meth c hC => r_subk (s_Shakes_addShake hC (fun pc L z M d h => r_iret hC d ⟨z, rfl, h⟩) hw) ⟨rfl, rfl, trivial⟩)
theorem dd_4_addShake : yX4_addShake.cls ≠ "java/lang/invoke/MethodHandle" ∧ yX4_addShake.cls ≠ "java/lang/invoke/VarHandle" ∧ (parseMethodDescriptor yX4_addShake.desc).map (fun d => d.parameters.length) = some 1 := by decide +kernel
/-- SoupSand.shake -/
def w_S_shake (M : Mem) (x1 : Int) (Q : Int → Mem → Prop) : Prop :=
  w_S_beyond M x1 0 1000 (fun a1 => (-2147483648 ≤ a1 ∧ a1 ≤ 2147483647) ∧ ((a1 = 0 → ∀ a5 : Int, a5 = M 3 3 → 0 ≤ a5 → a5 ≤ 6 → (a5 < 6 → w_Shakes_addShake M x1 (fun a10 M11 => Q a10 M11)) ∧ (¬ (a5 < 6) → Q (-1004) M)) ∧ (¬ (a1 = 0) → Q (-1002) M)))
set_option maxRecDepth 100000 in
set_option maxHeartbeats 4000000 in
theorem s_S_shake {M : Mem} {x1 : Int} {Q : Int → Mem → Prop} (hC : rC p R s m args meth c cells slots D aC ad 2 cX11_shake RX11 1 22 (some .int)) (hQ : ∀ (pc : Nat) (L : List (Nat × RV)) (z : Int) (M : Mem), decode cX11_shake pc = .ok (.ireturn, 1) → Q z M → rG p l e R s m args below meth c cells slots Qs D aC ad 2 pc L [vI z] M) (hw : w_S_shake M x1 Q) : rG p l e R s m args below meth c cells slots Qs D aC ad 2 0 [(0, vR 0), (1, vI x1)] [] M := by
  unfold w_S_shake at hw
  refine r_iload_n hC dX11_shake_0 rfl rfl ?_
  refine r_iconst hC dX11_shake_1 ?_
  refine r_sipush hC dX11_shake_2 (by decide) ?_
  refine r_callS hC (d_S_beyond hw) kC11_beyond km11_86 kT11_beyond kN11 dd_11_beyond ⟨Nat.le_of_ble_eq_true rfl, Nat.le_of_ble_eq_true rfl⟩ rfl (Nat.le_of_ble_eq_true rfl) dX11_shake_5 (fun r M' hp => ?_)
  obtain ⟨rfl, a1, rfl, hw⟩ := hp
  try dsimp only at hw
  obtain ⟨o2, hw⟩ := hw
  obtain ⟨hwt, hwf⟩ := hw
  refine r_if_eq hC 15 dX11_shake_8 (by decide) o2.1 o2.2 (fun c4 => ?_) (fun c4 => ?_)
  · have hw := hwt c4
    refine r_aload_n hC dX11_shake_15 rfl rfl ?_
    refine r_getR hC 2 rfl (by decide) kf11_25 rfl rfl dX11_shake_16 ?_
    refine r_getI hC 3 rfl (by decide) kf11_137 rfl rfl dX11_shake_19 (fun b6 b6' => ?_)
    replace hw := hw _ rfl b6 b6'
    refine r_bipush hC dX11_shake_22 (by decide) ?_
    obtain ⟨hwt, hwf⟩ := hw
    refine r_icmp_lt hC 31 dX11_shake_24 (by decide) (by omega) (by omega) (by decide) (by decide) (fun c9 => ?_) (fun c9 => ?_)
    · have hw := hwt c9
      refine r_aload_n hC dX11_shake_31 rfl rfl ?_
      refine r_getR hC 2 rfl (by decide) kf11_25 rfl rfl dX11_shake_32 ?_
      refine r_iload_n hC dX11_shake_35 rfl rfl ?_
      refine r_callV hC (d_Shakes_addShake hw) rfl kC4_addShake km11_143 kI4_addShake kS4_addShake kN4 dd_4_addShake ⟨Nat.le_of_ble_eq_true rfl, Nat.le_of_ble_eq_true rfl⟩ rfl (Nat.le_of_ble_eq_true rfl) dX11_shake_36 (fun r M' hp => ?_)
      obtain ⟨a10, rfl, hw⟩ := hp
      try dsimp only at hw
      exact hQ _ _ _ _ dX11_shake_39 hw
    · have hw := hwf c9
      refine r_sipush hC dX11_shake_27 (by decide) ?_
      exact hQ _ _ _ _ dX11_shake_30 hw
  · have hw := hwf c4
    refine r_sipush hC dX11_shake_11 (by decide) ?_
    exact hQ _ _ _ _ dX11_shake_14 hw
set_option maxRecDepth 100000 in
set_option maxHeartbeats 4000000 in
theorem d_S_shake {l : Launch} {D : va_G} {aC : Nat → ClassId} {ad : Nat → Nat} {M : Mem} {x1 : Int} {Q : Int → Mem → Prop} (hw : w_S_shake M x1 Q) : Does l D aC ad yX11_shake cX11_shake 2 (some .int) 1 22 [vR 0, vI x1] M (pI Q) :=
  Does.of (by decide) (Nat.le_of_ble_eq_true rfl) (fun p e R s m args below meth c hC => r_subk (s_S_shake hC (fun pc L z M d h => r_iret hC d ⟨z, rfl, h⟩) hw) ⟨rfl, rfl, trivial⟩)
/-- SoupSand$Shakes.hasShake -/
def w_Shakes_hasShake (M : Mem) (x1 : Int) (Q : Int → Prop) : Prop :=
  (-2147483648 ≤ x1 ∧ x1 ≤ 2147483647) ∧ ((x1 < 0 → Q 0) ∧ (¬ (x1 < 0) → ∀ a5 : Int, a5 = M 3 3 → 0 ≤ a5 → a5 ≤ 6 → (-2147483648 ≤ x1 ∧ x1 ≤ 2147483647) ∧ ((a5 ≤ x1 → Q 0) ∧ (¬ (a5 ≤ x1) → Q 1))))
set_option maxRecDepth 100000 in
set_option maxHeartbeats 4000000 in
theorem s_Shakes_hasShake {M : Mem} {x1 : Int} {Q : Int → Prop} (hC : rC p R s m args meth c cells slots D aC ad 2 cX4_hasShake RX4 0 0 (some .boolean)) (hQ : ∀ (pc : Nat) (L : List (Nat × RV)) (z : Int), decode cX4_hasShake pc = .ok (.ireturn, 1) → 0 ≤ z → z ≤ 1 → Q z → rG p l e R s m args below meth c cells slots Qs D aC ad 2 pc L [vI z] M) (hw : w_Shakes_hasShake M x1 Q) : rG p l e R s m args below meth c cells slots Qs D aC ad 2 0 [(0, vR 3), (1, vI x1)] [] M := by
  unfold w_Shakes_hasShake at hw
  refine r_iload_n hC dX4_hasShake_0 rfl rfl ?_
  obtain ⟨o1, hw⟩ := hw
  obtain ⟨hwt, hwf⟩ := hw
  refine r_if_lt hC 16 dX4_hasShake_1 (by decide) o1.1 o1.2 (fun c3 => ?_) (fun c3 => ?_)
  · have hw := hwt c3
    refine r_iconst hC dX4_hasShake_16 ?_
    exact hQ _ _ _ dX4_hasShake_17 (by decide) (by decide) hw
  · have hw := hwf c3
    refine r_iload_n hC dX4_hasShake_4 rfl rfl ?_
    refine r_aload_n hC dX4_hasShake_5 rfl rfl ?_
    refine r_getI hC 3 rfl (by decide) kf4_21 rfl rfl dX4_hasShake_6 (fun b6 b6' => ?_)
    replace hw := hw _ rfl b6 b6'
    obtain ⟨o7, hw⟩ := hw
    obtain ⟨hwt, hwf⟩ := hw
    refine r_icmp_ge hC 16 dX4_hasShake_9 (by decide) o7.1 o7.2 (by omega) (by omega) (fun c9 => ?_) (fun c9 => ?_)
    · have hw := hwt c9
      refine r_iconst hC dX4_hasShake_16 ?_
      exact hQ _ _ _ dX4_hasShake_17 (by decide) (by decide) hw
    · have hw := hwf c9
      refine r_iconst hC dX4_hasShake_12 ?_
      refine r_goto hC 17 dX4_hasShake_13 (by decide) ?_
      exact hQ _ _ _ dX4_hasShake_17 (by decide) (by decide) hw
set_option maxRecDepth 100000 in
set_option maxHeartbeats 4000000 in
theorem d_Shakes_hasShake {l : Launch} {D : va_G} {aC : Nat → ClassId} {ad : Nat → Nat} {M : Mem} {x1 : Int} {Q : Int → Prop} (hw : w_Shakes_hasShake M x1 Q) : Does l D aC ad yX4_hasShake cX4_hasShake 2 (some .boolean) 0 0 [vR 3, vI x1] M (qI M Q) :=
  Does.of (by decide) (Nat.le_of_ble_eq_true rfl) (fun p e R s m args below meth c hC => r_subk (s_Shakes_hasShake hC (fun pc L z d z1 z2 h => r_zret hC d z1 z2 ⟨rfl, ⟨z, rfl, h⟩⟩) hw) ⟨rfl, rfl, trivial⟩)
/-- SoupSand$Shakes.addBeat -/
def w_Shakes_addBeat (M : Mem) (x1 : Int) (x2 : Int) (Q : Int → Mem → Prop) : Prop :=
  (0 ≤ x1 ∧ x1 < 6) ∧ (∀ a2 : Int, a2 = M 28 x1 → 0 ≤ a2 → a2 ≤ 30 → ((0 ≤ (x1 * 30) + a2 ∧ (x1 * 30) + a2 < 180) ∧ (0 ≤ x2 ∧ x2 ≤ 999)) ∧ (∀ M5 : Mem, M5 = mset M 29 ((x1 * 30) + a2) x2 → (0 ≤ x1 ∧ x1 < 6) ∧ (∀ a7 : Int, a7 = M5 28 x1 → 0 ≤ a7 → a7 ≤ 30 → ((0 ≤ x1 ∧ x1 < 6) ∧ (0 ≤ a7 + 1 ∧ a7 + 1 ≤ 30)) ∧ (∀ M10 : Mem, M10 = mset M5 28 x1 (a7 + 1) → (0 ≤ x1 ∧ x1 < 6) ∧ (∀ a12 : Int, a12 = M10 28 x1 → 0 ≤ a12 → a12 ≤ 30 → Q a12 M10)))))
set_option maxRecDepth 100000 in
set_option maxHeartbeats 4000000 in
theorem s_Shakes_addBeat {M : Mem} {x1 : Int} {x2 : Int} {Q : Int → Mem → Prop} (hC : rC p R s m args meth c cells slots D aC ad 3 cX4_addBeat RX4 0 0 (some .int)) (hQ : ∀ (pc : Nat) (L : List (Nat × RV)) (z : Int) (M : Mem), decode cX4_addBeat pc = .ok (.ireturn, 1) → Q z M → rG p l e R s m args below meth c cells slots Qs D aC ad 3 pc L [vI z] M) (hw : w_Shakes_addBeat M x1 x2 Q) : rG p l e R s m args below meth c cells slots Qs D aC ad 3 0 [(0, vR 3), (1, vI x1), (2, vI x2)] [] M := by
  unfold w_Shakes_addBeat at hw
  refine r_aload_n hC dX4_addBeat_0 rfl rfl ?_
  refine r_getR hC 2 rfl (by decide) kf4_18 rfl rfl dX4_addBeat_1 ?_
  refine r_iload_n hC dX4_addBeat_4 rfl rfl ?_
  refine r_bipush hC dX4_addBeat_5 (by decide) ?_
  refine r_imul hC dX4_addBeat_7 ?_
  refine r_aload_n hC dX4_addBeat_8 rfl rfl ?_
  refine r_getR hC 1 rfl (by decide) kf4_15 rfl rfl dX4_addBeat_9 ?_
  refine r_iload_n hC dX4_addBeat_12 rfl rfl ?_
  obtain ⟨o1, hw⟩ := hw
  refine r_iald hC rfl o1.1 o1.2 (by decide) (by decide) dX4_addBeat_13 (fun b3 b3' => ?_)
  replace hw := hw _ rfl b3 b3'
  refine r_iadd hC dX4_addBeat_14 ?_
  refine r_iload_n hC dX4_addBeat_15 rfl rfl ?_
  obtain ⟨o4, hw⟩ := hw
  refine r_iast hC rfl o4.1.1 o4.1.2 (by decide) (by decide) o4.2.1 o4.2.2 dX4_addBeat_16 ?_
  replace hw := hw _ rfl
  refine r_aload_n hC dX4_addBeat_17 rfl rfl ?_
  refine r_getR hC 1 rfl (by decide) kf4_15 rfl rfl dX4_addBeat_18 ?_
  refine r_iload_n hC dX4_addBeat_21 rfl rfl ?_
  refine r_dup2 hC dX4_addBeat_22 rfl rfl ?_
  obtain ⟨o6, hw⟩ := hw
  refine r_iald hC rfl o6.1 o6.2 (by decide) (by decide) dX4_addBeat_23 (fun b8 b8' => ?_)
  replace hw := hw _ rfl b8 b8'
  refine r_iconst hC dX4_addBeat_24 ?_
  refine r_iadd hC dX4_addBeat_25 ?_
  obtain ⟨o9, hw⟩ := hw
  refine r_iast hC rfl o9.1.1 o9.1.2 (by decide) (by decide) o9.2.1 o9.2.2 dX4_addBeat_26 ?_
  replace hw := hw _ rfl
  refine r_aload_n hC dX4_addBeat_27 rfl rfl ?_
  refine r_getR hC 1 rfl (by decide) kf4_15 rfl rfl dX4_addBeat_28 ?_
  refine r_iload_n hC dX4_addBeat_31 rfl rfl ?_
  obtain ⟨o11, hw⟩ := hw
  refine r_iald hC rfl o11.1 o11.2 (by decide) (by decide) dX4_addBeat_32 (fun b13 b13' => ?_)
  replace hw := hw _ rfl b13 b13'
  exact hQ _ _ _ _ dX4_addBeat_33 hw
set_option maxRecDepth 100000 in
set_option maxHeartbeats 4000000 in
theorem d_Shakes_addBeat {l : Launch} {D : va_G} {aC : Nat → ClassId} {ad : Nat → Nat} {M : Mem} {x1 : Int} {x2 : Int} {Q : Int → Mem → Prop} (hw : w_Shakes_addBeat M x1 x2 Q) : Does l D aC ad yX4_addBeat cX4_addBeat 3 (some .int) 0 0 [vR 3, vI x1, vI x2] M (pI Q) :=
  Does.of (by decide) (Nat.le_of_ble_eq_true rfl) (fun p e R s m args below meth c hC => r_subk (s_Shakes_addBeat hC (fun pc L z M d h => r_iret hC d ⟨z, rfl, h⟩) hw) ⟨rfl, rfl, rfl, trivial⟩)
theorem dd_4_addBeat : yX4_addBeat.cls ≠ "java/lang/invoke/MethodHandle" ∧ yX4_addBeat.cls ≠ "java/lang/invoke/VarHandle" ∧ (parseMethodDescriptor yX4_addBeat.desc).map (fun d => d.parameters.length) = some 2 := by decide +kernel
theorem dd_4_hasShake : yX4_hasShake.cls ≠ "java/lang/invoke/MethodHandle" ∧ yX4_hasShake.cls ≠ "java/lang/invoke/VarHandle" ∧ (parseMethodDescriptor yX4_hasShake.desc).map (fun d => d.parameters.length) = some 1 := by decide +kernel
/-- SoupSand.beat -/
def w_S_beat (M : Mem) (x1 : Int) (x2 : Int) (Q : Int → Mem → Prop) : Prop :=
  w_Shakes_hasShake M x1 (fun a1 => (-2147483648 ≤ a1 ∧ a1 ≤ 2147483647) ∧ ((¬ (a1 = 0) → w_S_beyond M x2 0 999 (fun a5 => (-2147483648 ≤ a5 ∧ a5 ≤ 2147483647) ∧ ((a5 = 0 → (0 ≤ x1 ∧ x1 < 6) ∧ (∀ a10 : Int, a10 = M 28 x1 → 0 ≤ a10 → a10 ≤ 30 → (a10 < 30 → w_Words_forget M (fun M16 => w_Shakes_addBeat M16 x1 x2 (fun a17 M18 => Q a17 M18))) ∧ (¬ (a10 < 30) → Q (-1004) M))) ∧ (¬ (a5 = 0) → Q (-1002) M)))) ∧ (a1 = 0 → Q (-1001) M)))
set_option maxRecDepth 100000 in
set_option maxHeartbeats 4000000 in
theorem s_S_beat {M : Mem} {x1 : Int} {x2 : Int} {Q : Int → Mem → Prop} (hC : rC p R s m args meth c cells slots D aC ad 3 cX11_beat RX11 1 22 (some .int)) (hQ : ∀ (pc : Nat) (L : List (Nat × RV)) (z : Int) (M : Mem), decode cX11_beat pc = .ok (.ireturn, 1) → Q z M → rG p l e R s m args below meth c cells slots Qs D aC ad 3 pc L [vI z] M) (hw : w_S_beat M x1 x2 Q) : rG p l e R s m args below meth c cells slots Qs D aC ad 3 0 [(0, vR 0), (1, vI x1), (2, vI x2)] [] M := by
  unfold w_S_beat at hw
  refine r_aload_n hC dX11_beat_0 rfl rfl ?_
  refine r_getR hC 2 rfl (by decide) kf11_25 rfl rfl dX11_beat_1 ?_
  refine r_iload_n hC dX11_beat_4 rfl rfl ?_
  refine r_callV hC (d_Shakes_hasShake hw) rfl kC4_hasShake km11_147 kI4_hasShake kS4_hasShake kN4 dd_4_hasShake ⟨Nat.le_of_ble_eq_true rfl, Nat.le_of_ble_eq_true rfl⟩ rfl (Nat.le_of_ble_eq_true rfl) dX11_beat_5 (fun r M' hp => ?_)
  obtain ⟨rfl, a1, rfl, hw⟩ := hp
  try dsimp only at hw
  obtain ⟨o2, hw⟩ := hw
  obtain ⟨hwt, hwf⟩ := hw
  refine r_if_ne hC 15 dX11_beat_8 (by decide) o2.1 o2.2 (fun c4 => ?_) (fun c4 => ?_)
  · have hw := hwt c4
    refine r_iload_n hC dX11_beat_15 rfl rfl ?_
    refine r_iconst hC dX11_beat_16 ?_
    refine r_sipush hC dX11_beat_17 (by decide) ?_
    refine r_callS hC (d_S_beyond hw) kC11_beyond km11_86 kT11_beyond kN11 dd_11_beyond ⟨Nat.le_of_ble_eq_true rfl, Nat.le_of_ble_eq_true rfl⟩ rfl (Nat.le_of_ble_eq_true rfl) dX11_beat_20 (fun r M' hp => ?_)
    obtain ⟨rfl, a5, rfl, hw⟩ := hp
    try dsimp only at hw
    obtain ⟨o6, hw⟩ := hw
    obtain ⟨hwt, hwf⟩ := hw
    refine r_if_eq hC 30 dX11_beat_23 (by decide) o6.1 o6.2 (fun c8 => ?_) (fun c8 => ?_)
    · have hw := hwt c8
      refine r_aload_n hC dX11_beat_30 rfl rfl ?_
      refine r_getR hC 2 rfl (by decide) kf11_25 rfl rfl dX11_beat_31 ?_
      refine r_getR hC 1 rfl (by decide) kf11_150 rfl rfl dX11_beat_34 ?_
      refine r_iload_n hC dX11_beat_37 rfl rfl ?_
      obtain ⟨o9, hw⟩ := hw
      refine r_iald hC rfl o9.1 o9.2 (by decide) (by decide) dX11_beat_38 (fun b11 b11' => ?_)
      replace hw := hw _ rfl b11 b11'
      refine r_bipush hC dX11_beat_39 (by decide) ?_
      obtain ⟨hwt, hwf⟩ := hw
      refine r_icmp_lt hC 48 dX11_beat_41 (by decide) (by omega) (by omega) (by decide) (by decide) (fun c14 => ?_) (fun c14 => ?_)
      · have hw := hwt c14
        refine r_aload_n hC dX11_beat_48 rfl rfl ?_
        refine r_getR hC 4 rfl (by decide) kf11_34 rfl rfl dX11_beat_49 ?_
        refine r_callV hC (d_Words_forget hw) rfl kC9_forget km11_97 kI9_forget kS9_forget kN9 dd_9_forget ⟨Nat.le_of_ble_eq_true rfl, Nat.le_of_ble_eq_true rfl⟩ rfl (Nat.le_of_ble_eq_true rfl) dX11_beat_52 (fun r M' hp => ?_)
        obtain ⟨rfl, hw⟩ := hp
        try dsimp only at hw
        refine r_aload_n hC dX11_beat_55 rfl rfl ?_
        refine r_getR hC 2 rfl (by decide) kf11_25 rfl rfl dX11_beat_56 ?_
        refine r_iload_n hC dX11_beat_59 rfl rfl ?_
        refine r_iload_n hC dX11_beat_60 rfl rfl ?_
        refine r_callV hC (d_Shakes_addBeat hw) rfl kC4_addBeat km11_153 kI4_addBeat kS4_addBeat kN4 dd_4_addBeat ⟨Nat.le_of_ble_eq_true rfl, Nat.le_of_ble_eq_true rfl⟩ rfl (Nat.le_of_ble_eq_true rfl) dX11_beat_61 (fun r M' hp => ?_)
        obtain ⟨a17, rfl, hw⟩ := hp
        try dsimp only at hw
        exact hQ _ _ _ _ dX11_beat_64 hw
      · have hw := hwf c14
        refine r_sipush hC dX11_beat_44 (by decide) ?_
        exact hQ _ _ _ _ dX11_beat_47 hw
    · have hw := hwf c8
      refine r_sipush hC dX11_beat_26 (by decide) ?_
      exact hQ _ _ _ _ dX11_beat_29 hw
  · have hw := hwf c4
    refine r_sipush hC dX11_beat_11 (by decide) ?_
    exact hQ _ _ _ _ dX11_beat_14 hw
set_option maxRecDepth 100000 in
set_option maxHeartbeats 4000000 in
theorem d_S_beat {l : Launch} {D : va_G} {aC : Nat → ClassId} {ad : Nat → Nat} {M : Mem} {x1 : Int} {x2 : Int} {Q : Int → Mem → Prop} (hw : w_S_beat M x1 x2 Q) : Does l D aC ad yX11_beat cX11_beat 3 (some .int) 1 22 [vR 0, vI x1, vI x2] M (pI Q) :=
  Does.of (by decide) (Nat.le_of_ble_eq_true rfl) (fun p e R s m args below meth c hC => r_subk (s_S_beat hC (fun pc L z M d h => r_iret hC d ⟨z, rfl, h⟩) hw) ⟨rfl, rfl, rfl, trivial⟩)
/-- SoupSand.sumOf -/
def w_S_sumOf_B0 (Q : Int → Prop) (x3 : Int) (M : Mem) (X10 : Int → Int → Prop) (x1 : Int) (x4 : Int) : Prop :=
  (-2147483648 ≤ x4 ∧ x4 ≤ 2147483647) ∧ ((-2147483648 ≤ x3 ∧ x3 ≤ 2147483647) ∧ ((x3 ≤ x4 → Q x1) ∧ (¬ (x3 ≤ x4) → (0 ≤ x4 ∧ x4 < 6) ∧ (∀ a5 : Int, a5 = M 21 x4 → 0 ≤ a5 → a5 ≤ 6 → X10 (x1 + a5) (x4 + 1)))))
set_option maxRecDepth 100000 in
set_option maxHeartbeats 4000000 in
theorem s_S_sumOf_B0 {Q : Int → Prop} {x3 : Int} {M : Mem} {X10 : Int → Int → Prop} {x1 : Int} {x4 : Int} (hC : rC p R s m args meth c cells slots D aC ad 6 cX11_sumOf RX11 0 0 (some .int)) (hQ : ∀ (pc : Nat) (L : List (Nat × RV)) (z : Int), decode cX11_sumOf pc = .ok (.ireturn, 1) → Q z → rG p l e R s m args below meth c cells slots Qs D aC ad 6 pc L [vI z] M) (hX10 : ∀ (x1 : Int) (x4 : Int), X10 x1 x4 → rG p l e R s m args below meth c cells slots Qs D aC ad 6 10 [(1, vI x1), (2, vR 21), (3, vI x3), (4, vI x4)] [] M) (hw : w_S_sumOf_B0 Q x3 M X10 x1 x4) : rG p l e R s m args below meth c cells slots Qs D aC ad 6 10 [(1, vI x1), (2, vR 21), (3, vI x3), (4, vI x4)] [] M := by
  unfold w_S_sumOf_B0 at hw
  refine r_iload hC dX11_sumOf_10 rfl ?_
  refine r_iload_n hC dX11_sumOf_12 rfl rfl ?_
  obtain ⟨o1, hw⟩ := hw
  obtain ⟨o2, hw⟩ := hw
  obtain ⟨hwt, hwf⟩ := hw
  refine r_icmp_ge hC 33 dX11_sumOf_13 (by decide) o1.1 o1.2 o2.1 o2.2 (fun c3 => ?_) (fun c3 => ?_)
  · have hw := hwt c3
    refine r_iload_n hC dX11_sumOf_33 rfl rfl ?_
    exact hQ _ _ _ dX11_sumOf_34 hw
  · have hw := hwf c3
    refine r_aload_n hC dX11_sumOf_16 rfl rfl ?_
    refine r_iload hC dX11_sumOf_17 rfl ?_
    obtain ⟨o4, hw⟩ := hw
    refine r_iald hC rfl o4.1 o4.2 (by decide) (by decide) dX11_sumOf_19 (fun b6 b6' => ?_)
    replace hw := hw _ rfl b6 b6'
    refine r_istore hC dX11_sumOf_20 (by decide) ?_
    refine r_iload_n hC dX11_sumOf_22 rfl rfl ?_
    refine r_iload hC dX11_sumOf_23 rfl ?_
    refine r_iadd hC dX11_sumOf_25 ?_
    refine r_istore_n hC dX11_sumOf_26 rfl (by decide) ?_
    refine r_iinc hC dX11_sumOf_27 rfl (by decide) ?_
    refine r_goto hC 10 dX11_sumOf_30 (by decide) ?_
    exact r_subk (hX10 _ _ hw) ⟨rfl, rfl, rfl, rfl, trivial⟩
def w_S_sumOf_L0 (Q : Int → Prop) (x3 : Int) (M : Mem) (x1 : Int) (x4 : Int) : Prop :=
  ∀ X : Int → Int → Prop, (∀ (x1 : Int) (x4 : Int), w_S_sumOf_B0 Q x3 M X x1 x4 → X x1 x4) → X x1 x4
set_option maxRecDepth 100000 in
set_option maxHeartbeats 4000000 in
theorem s_S_sumOf_L0 {Q : Int → Prop} {x3 : Int} {M : Mem} {x1 : Int} {x4 : Int} (hC : rC p R s m args meth c cells slots D aC ad 6 cX11_sumOf RX11 0 0 (some .int)) (hQ : ∀ (pc : Nat) (L : List (Nat × RV)) (z : Int), decode cX11_sumOf pc = .ok (.ireturn, 1) → Q z → rG p l e R s m args below meth c cells slots Qs D aC ad 6 pc L [vI z] M) (hw : w_S_sumOf_L0 Q x3 M x1 x4) : rG p l e R s m args below meth c cells slots Qs D aC ad 6 10 [(1, vI x1), (2, vR 21), (3, vI x3), (4, vI x4)] [] M := by
  unfold w_S_sumOf_L0 at hw
  exact hw (fun x1 x4 => rG p l e R s m args below meth c cells slots Qs D aC ad 6 10 [(1, vI x1), (2, vR 21), (3, vI x3), (4, vI x4)] [] M) (fun x1 x4 hb => s_S_sumOf_B0 hC hQ (fun _ _ h => h) hb)
def w_S_sumOf (M : Mem) (Q : Int → Prop) : Prop :=
  w_S_sumOf_L0 Q 6 M 0 0
set_option maxRecDepth 100000 in
set_option maxHeartbeats 4000000 in
theorem s_S_sumOf {M : Mem} {Q : Int → Prop} (hC : rC p R s m args meth c cells slots D aC ad 6 cX11_sumOf RX11 0 0 (some .int)) (hQ : ∀ (pc : Nat) (L : List (Nat × RV)) (z : Int), decode cX11_sumOf pc = .ok (.ireturn, 1) → Q z → rG p l e R s m args below meth c cells slots Qs D aC ad 6 pc L [vI z] M) (hw : w_S_sumOf M Q) : rG p l e R s m args below meth c cells slots Qs D aC ad 6 0 [(0, vR 21)] [] M := by
  unfold w_S_sumOf at hw
  refine r_iconst hC dX11_sumOf_0 ?_
  refine r_istore_n hC dX11_sumOf_1 rfl (by decide) ?_
  refine r_aload_n hC dX11_sumOf_2 rfl rfl ?_
  refine r_astore_n hC dX11_sumOf_3 rfl (by decide) ?_
  refine r_aload_n hC dX11_sumOf_4 rfl rfl ?_
  refine r_alen hC (h := 21) rfl (by decide) (by decide) dX11_sumOf_5 ?_
  refine r_istore_n hC dX11_sumOf_6 rfl (by decide) ?_
  refine r_iconst hC dX11_sumOf_7 ?_
  refine r_istore hC dX11_sumOf_8 (by decide) ?_
  exact r_subk (s_S_sumOf_L0 hC hQ hw) ⟨rfl, rfl, rfl, rfl, trivial⟩
set_option maxRecDepth 100000 in
set_option maxHeartbeats 4000000 in
theorem d_S_sumOf {l : Launch} {D : va_G} {aC : Nat → ClassId} {ad : Nat → Nat} {M : Mem} {Q : Int → Prop} (hw : w_S_sumOf M Q) : Does l D aC ad yX11_sumOf cX11_sumOf 6 (some .int) 0 0 [vR 21] M (qI M Q) :=
  Does.of (by decide) (Nat.le_of_ble_eq_true rfl) (fun p e R s m args below meth c hC => r_subk (s_S_sumOf hC (fun pc L z d h => r_iret hC d ⟨rfl, ⟨z, rfl, h⟩⟩) hw) ⟨rfl, trivial⟩)
/-- SoupSand.sumOf -/
def w_S_sumOf_1_B0 (Q : Int → Prop) (x3 : Int) (M : Mem) (X10 : Int → Int → Prop) (x1 : Int) (x4 : Int) : Prop :=
  (-2147483648 ≤ x4 ∧ x4 ≤ 2147483647) ∧ ((-2147483648 ≤ x3 ∧ x3 ≤ 2147483647) ∧ ((x3 ≤ x4 → Q x1) ∧ (¬ (x3 ≤ x4) → (0 ≤ x4 ∧ x4 < 6) ∧ (∀ a5 : Int, a5 = M 28 x4 → 0 ≤ a5 → a5 ≤ 30 → X10 (x1 + a5) (x4 + 1)))))
set_option maxRecDepth 100000 in
set_option maxHeartbeats 4000000 in
theorem s_S_sumOf_1_B0 {Q : Int → Prop} {x3 : Int} {M : Mem} {X10 : Int → Int → Prop} {x1 : Int} {x4 : Int} (hC : rC p R s m args meth c cells slots D aC ad 6 cX11_sumOf RX11 0 0 (some .int)) (hQ : ∀ (pc : Nat) (L : List (Nat × RV)) (z : Int), decode cX11_sumOf pc = .ok (.ireturn, 1) → Q z → rG p l e R s m args below meth c cells slots Qs D aC ad 6 pc L [vI z] M) (hX10 : ∀ (x1 : Int) (x4 : Int), X10 x1 x4 → rG p l e R s m args below meth c cells slots Qs D aC ad 6 10 [(1, vI x1), (2, vR 28), (3, vI x3), (4, vI x4)] [] M) (hw : w_S_sumOf_1_B0 Q x3 M X10 x1 x4) : rG p l e R s m args below meth c cells slots Qs D aC ad 6 10 [(1, vI x1), (2, vR 28), (3, vI x3), (4, vI x4)] [] M := by
  unfold w_S_sumOf_1_B0 at hw
  refine r_iload hC dX11_sumOf_10 rfl ?_
  refine r_iload_n hC dX11_sumOf_12 rfl rfl ?_
  obtain ⟨o1, hw⟩ := hw
  obtain ⟨o2, hw⟩ := hw
  obtain ⟨hwt, hwf⟩ := hw
  refine r_icmp_ge hC 33 dX11_sumOf_13 (by decide) o1.1 o1.2 o2.1 o2.2 (fun c3 => ?_) (fun c3 => ?_)
  · have hw := hwt c3
    refine r_iload_n hC dX11_sumOf_33 rfl rfl ?_
    exact hQ _ _ _ dX11_sumOf_34 hw
  · have hw := hwf c3
    refine r_aload_n hC dX11_sumOf_16 rfl rfl ?_
    refine r_iload hC dX11_sumOf_17 rfl ?_
    obtain ⟨o4, hw⟩ := hw
    refine r_iald hC rfl o4.1 o4.2 (by decide) (by decide) dX11_sumOf_19 (fun b6 b6' => ?_)
    replace hw := hw _ rfl b6 b6'
    refine r_istore hC dX11_sumOf_20 (by decide) ?_
    refine r_iload_n hC dX11_sumOf_22 rfl rfl ?_
    refine r_iload hC dX11_sumOf_23 rfl ?_
    refine r_iadd hC dX11_sumOf_25 ?_
    refine r_istore_n hC dX11_sumOf_26 rfl (by decide) ?_
    refine r_iinc hC dX11_sumOf_27 rfl (by decide) ?_
    refine r_goto hC 10 dX11_sumOf_30 (by decide) ?_
    exact r_subk (hX10 _ _ hw) ⟨rfl, rfl, rfl, rfl, trivial⟩
def w_S_sumOf_1_L0 (Q : Int → Prop) (x3 : Int) (M : Mem) (x1 : Int) (x4 : Int) : Prop :=
  ∀ X : Int → Int → Prop, (∀ (x1 : Int) (x4 : Int), w_S_sumOf_1_B0 Q x3 M X x1 x4 → X x1 x4) → X x1 x4
set_option maxRecDepth 100000 in
set_option maxHeartbeats 4000000 in
theorem s_S_sumOf_1_L0 {Q : Int → Prop} {x3 : Int} {M : Mem} {x1 : Int} {x4 : Int} (hC : rC p R s m args meth c cells slots D aC ad 6 cX11_sumOf RX11 0 0 (some .int)) (hQ : ∀ (pc : Nat) (L : List (Nat × RV)) (z : Int), decode cX11_sumOf pc = .ok (.ireturn, 1) → Q z → rG p l e R s m args below meth c cells slots Qs D aC ad 6 pc L [vI z] M) (hw : w_S_sumOf_1_L0 Q x3 M x1 x4) : rG p l e R s m args below meth c cells slots Qs D aC ad 6 10 [(1, vI x1), (2, vR 28), (3, vI x3), (4, vI x4)] [] M := by
  unfold w_S_sumOf_1_L0 at hw
  exact hw (fun x1 x4 => rG p l e R s m args below meth c cells slots Qs D aC ad 6 10 [(1, vI x1), (2, vR 28), (3, vI x3), (4, vI x4)] [] M) (fun x1 x4 hb => s_S_sumOf_1_B0 hC hQ (fun _ _ h => h) hb)
def w_S_sumOf_1 (M : Mem) (Q : Int → Prop) : Prop :=
  w_S_sumOf_1_L0 Q 6 M 0 0
set_option maxRecDepth 100000 in
set_option maxHeartbeats 4000000 in
theorem s_S_sumOf_1 {M : Mem} {Q : Int → Prop} (hC : rC p R s m args meth c cells slots D aC ad 6 cX11_sumOf RX11 0 0 (some .int)) (hQ : ∀ (pc : Nat) (L : List (Nat × RV)) (z : Int), decode cX11_sumOf pc = .ok (.ireturn, 1) → Q z → rG p l e R s m args below meth c cells slots Qs D aC ad 6 pc L [vI z] M) (hw : w_S_sumOf_1 M Q) : rG p l e R s m args below meth c cells slots Qs D aC ad 6 0 [(0, vR 28)] [] M := by
  unfold w_S_sumOf_1 at hw
  refine r_iconst hC dX11_sumOf_0 ?_
  refine r_istore_n hC dX11_sumOf_1 rfl (by decide) ?_
  refine r_aload_n hC dX11_sumOf_2 rfl rfl ?_
  refine r_astore_n hC dX11_sumOf_3 rfl (by decide) ?_
  refine r_aload_n hC dX11_sumOf_4 rfl rfl ?_
  refine r_alen hC (h := 28) rfl (by decide) (by decide) dX11_sumOf_5 ?_
  refine r_istore_n hC dX11_sumOf_6 rfl (by decide) ?_
  refine r_iconst hC dX11_sumOf_7 ?_
  refine r_istore hC dX11_sumOf_8 (by decide) ?_
  exact r_subk (s_S_sumOf_1_L0 hC hQ hw) ⟨rfl, rfl, rfl, rfl, trivial⟩
set_option maxRecDepth 100000 in
set_option maxHeartbeats 4000000 in
theorem d_S_sumOf_1 {l : Launch} {D : va_G} {aC : Nat → ClassId} {ad : Nat → Nat} {M : Mem} {Q : Int → Prop} (hw : w_S_sumOf_1 M Q) : Does l D aC ad yX11_sumOf cX11_sumOf 6 (some .int) 0 0 [vR 28] M (qI M Q) :=
  Does.of (by decide) (Nat.le_of_ble_eq_true rfl) (fun p e R s m args below meth c hC => r_subk (s_S_sumOf_1 hC (fun pc L z d h => r_iret hC d ⟨rfl, ⟨z, rfl, h⟩⟩) hw) ⟨rfl, trivial⟩)
theorem dd_11_sumOf : yX11_sumOf.cls ≠ "java/lang/invoke/MethodHandle" ∧ yX11_sumOf.cls ≠ "java/lang/invoke/VarHandle" ∧ (parseMethodDescriptor yX11_sumOf.desc).map (fun d => d.parameters.length) = some 1 := by decide +kernel
/-- SoupSand.count -/
def w_S_count (M : Mem) (x1 : Int) (Q : Int → Prop) : Prop :=
  (-2147483648 ≤ x1 ∧ x1 ≤ 2147483647) ∧ (((x1 < 0 ∨ 8 < x1) → Q (-1002)) ∧ (x1 = 0 → w_S_sumOf M (fun a3 => Q a3)) ∧ (x1 = 1 → ∀ a4 : Int, a4 = M 3 3 → 0 ≤ a4 → a4 ≤ 6 → Q a4) ∧ (x1 = 2 → w_S_sumOf_1 M (fun a6 => Q a6)) ∧ (x1 = 3 → ∀ a7 : Int, a7 = M 5 5 → 0 ≤ a7 → a7 ≤ 16 → Q a7) ∧ (x1 = 4 → ∀ a9 : Int, a9 = M 5 6 → 0 ≤ a9 → a9 ≤ 65535 → w_bitCount a9 (fun a11 => Q a11)) ∧ (x1 = 5 → ∀ a12 : Int, a12 = M 6 3 → 0 ≤ a12 → a12 ≤ 8 → Q a12) ∧ (x1 = 6 → ∀ a14 : Int, a14 = M 7 4 → 0 ≤ a14 → a14 ≤ 8 → Q a14) ∧ (x1 = 7 → ∀ a16 : Int, a16 = M 8 5 → 0 ≤ a16 → a16 ≤ 6 → Q a16) ∧ (x1 = 8 → ∀ a18 : Int, a18 = M 11 1 → 0 ≤ a18 → a18 ≤ 200 → Q a18))
set_option maxRecDepth 100000 in
set_option maxHeartbeats 4000000 in
theorem s_S_count {M : Mem} {x1 : Int} {Q : Int → Prop} (hC : rC p R s m args meth c cells slots D aC ad 2 cX11_count RX11 1 25 (some .int)) (hQ : ∀ (pc : Nat) (L : List (Nat × RV)) (z : Int), decode cX11_count pc = .ok (.ireturn, 1) → Q z → rG p l e R s m args below meth c cells slots Qs D aC ad 2 pc L [vI z] M) (hw : w_S_count M x1 Q) : rG p l e R s m args below meth c cells slots Qs D aC ad 2 0 [(0, vR 0), (1, vI x1)] [] M := by
  unfold w_S_count at hw
  refine r_iload_n hC dX11_count_0 rfl rfl ?_
  obtain ⟨o1, hw⟩ := hw
  obtain ⟨hd, h0, h1, h2, h3, h4, h5, h6, h7, h8⟩ := hw
  refine r_tsw hC dX11_count_1 o1.1 o1.2 133 (by decide) (fun c2 => ?_) (fun n hn hn2 => ?_)
  · have hw := hd c2
    refine r_sipush hC dX11_count_133 (by decide) ?_
    exact hQ _ _ _ dX11_count_136 hw
  · have hlt : n < 9 := by omega
    match n, hlt with
    | 0, _ =>
      refine ⟨_, 52, rfl, by decide, ?_⟩
      have hw := h0 (by omega)
      refine r_aload_n hC dX11_count_52 rfl rfl ?_
      refine r_getR hC 1 rfl (by decide) kf11_20 rfl rfl dX11_count_53 ?_
      refine r_getR hC 2 rfl (by decide) kf11_100 rfl rfl dX11_count_56 ?_
      refine r_callS hC (d_S_sumOf hw) kC11_sumOf km11_156 kT11_sumOf kN11 dd_11_sumOf ⟨Nat.le_of_ble_eq_true rfl, Nat.le_of_ble_eq_true rfl⟩ rfl (Nat.le_of_ble_eq_true rfl) dX11_count_59 (fun r M' hp => ?_)
      obtain ⟨rfl, a3, rfl, hw⟩ := hp
      try dsimp only at hw
      exact hQ _ _ _ dX11_count_62 hw
    | 1, _ =>
      refine ⟨_, 63, rfl, by decide, ?_⟩
      have hw := h1 (by omega)
      refine r_aload_n hC dX11_count_63 rfl rfl ?_
      refine r_getR hC 2 rfl (by decide) kf11_25 rfl rfl dX11_count_64 ?_
      refine r_getI hC 3 rfl (by decide) kf11_137 rfl rfl dX11_count_67 (fun b5 b5' => ?_)
      replace hw := hw _ rfl b5 b5'
      exact hQ _ _ _ dX11_count_70 hw
    | 2, _ =>
      refine ⟨_, 71, rfl, by decide, ?_⟩
      have hw := h2 (by omega)
      refine r_aload_n hC dX11_count_71 rfl rfl ?_
      refine r_getR hC 2 rfl (by decide) kf11_25 rfl rfl dX11_count_72 ?_
      refine r_getR hC 1 rfl (by decide) kf11_150 rfl rfl dX11_count_75 ?_
      refine r_callS hC (d_S_sumOf_1 hw) kC11_sumOf km11_156 kT11_sumOf kN11 dd_11_sumOf ⟨Nat.le_of_ble_eq_true rfl, Nat.le_of_ble_eq_true rfl⟩ rfl (Nat.le_of_ble_eq_true rfl) dX11_count_78 (fun r M' hp => ?_)
      obtain ⟨rfl, a6, rfl, hw⟩ := hp
      try dsimp only at hw
      exact hQ _ _ _ dX11_count_81 hw
    | 3, _ =>
      refine ⟨_, 82, rfl, by decide, ?_⟩
      have hw := h3 (by omega)
      refine r_aload_n hC dX11_count_82 rfl rfl ?_
      refine r_getR hC 4 rfl (by decide) kf11_34 rfl rfl dX11_count_83 ?_
      refine r_getI hC 5 rfl (by decide) kf11_160 rfl rfl dX11_count_86 (fun b8 b8' => ?_)
      replace hw := hw _ rfl b8 b8'
      exact hQ _ _ _ dX11_count_89 hw
    | 4, _ =>
      refine ⟨_, 90, rfl, by decide, ?_⟩
      have hw := h4 (by omega)
      refine r_aload_n hC dX11_count_90 rfl rfl ?_
      refine r_getR hC 4 rfl (by decide) kf11_34 rfl rfl dX11_count_91 ?_
      refine r_getI hC 6 rfl (by decide) kf11_161 rfl rfl dX11_count_94 (fun b10 b10' => ?_)
      replace hw := hw _ rfl b10 b10'
      refine r_bits hC km11_164 (by decide) (Nat.le_of_ble_eq_true rfl) dX11_count_97 hw (fun a11 hw => ?_)
      exact hQ _ _ _ dX11_count_100 hw
    | 5, _ =>
      refine ⟨_, 101, rfl, by decide, ?_⟩
      have hw := h5 (by omega)
      refine r_aload_n hC dX11_count_101 rfl rfl ?_
      refine r_getR hC 5 rfl (by decide) kf11_41 rfl rfl dX11_count_102 ?_
      refine r_getI hC 3 rfl (by decide) kf11_169 rfl rfl dX11_count_105 (fun b13 b13' => ?_)
      replace hw := hw _ rfl b13 b13'
      exact hQ _ _ _ dX11_count_108 hw
    | 6, _ =>
      refine ⟨_, 109, rfl, by decide, ?_⟩
      have hw := h6 (by omega)
      refine r_aload_n hC dX11_count_109 rfl rfl ?_
      refine r_getR hC 6 rfl (by decide) kf11_48 rfl rfl dX11_count_110 ?_
      refine r_getI hC 4 rfl (by decide) kf11_170 rfl rfl dX11_count_113 (fun b15 b15' => ?_)
      replace hw := hw _ rfl b15 b15'
      exact hQ _ _ _ dX11_count_116 hw
    | 7, _ =>
      refine ⟨_, 117, rfl, by decide, ?_⟩
      have hw := h7 (by omega)
      refine r_aload_n hC dX11_count_117 rfl rfl ?_
      refine r_getR hC 7 rfl (by decide) kf11_55 rfl rfl dX11_count_118 ?_
      refine r_getI hC 5 rfl (by decide) kf11_171 rfl rfl dX11_count_121 (fun b17 b17' => ?_)
      replace hw := hw _ rfl b17 b17'
      exact hQ _ _ _ dX11_count_124 hw
    | 8, _ =>
      refine ⟨_, 125, rfl, by decide, ?_⟩
      have hw := h8 (by omega)
      refine r_aload_n hC dX11_count_125 rfl rfl ?_
      refine r_getR hC 10 rfl (by decide) kf11_76 rfl rfl dX11_count_126 ?_
      refine r_getI hC 1 rfl (by decide) kf11_172 rfl rfl dX11_count_129 (fun b19 b19' => ?_)
      replace hw := hw _ rfl b19 b19'
      exact hQ _ _ _ dX11_count_132 hw
    | n + 9, h => exact absurd h (by omega)
set_option maxRecDepth 100000 in
set_option maxHeartbeats 4000000 in
theorem d_S_count {l : Launch} {D : va_G} {aC : Nat → ClassId} {ad : Nat → Nat} {M : Mem} {x1 : Int} {Q : Int → Prop} (hw : w_S_count M x1 Q) : Does l D aC ad yX11_count cX11_count 2 (some .int) 1 25 [vR 0, vI x1] M (qI M Q) :=
  Does.of (by decide) (Nat.le_of_ble_eq_true rfl) (fun p e R s m args below meth c hC => r_subk (s_S_count hC (fun pc L z d h => r_iret hC d ⟨rfl, ⟨z, rfl, h⟩⟩) hw) ⟨rfl, rfl, trivial⟩)
/-- SoupSand$Trial.begin -/
def w_Trial_begin_B0 (Q : Mem → Prop) (X40 : Int → Mem → Prop) (x2 : Int) (M : Mem) : Prop :=
  ∀ a1 : Int, a1 = M 1 10 → 0 ≤ a1 → a1 ≤ 6 → (-2147483648 ≤ x2 ∧ x2 ≤ 2147483647) ∧ ((a1 ≤ x2 → Q M) ∧ (¬ (a1 ≤ x2) → (0 ≤ x2 ∧ x2 < 6) ∧ (∀ M7 : Mem, M7 = mset M 13 x2 0 → X40 (x2 + 1) M7)))
set_option maxRecDepth 100000 in
set_option maxHeartbeats 4000000 in
theorem s_Trial_begin_B0 {Q : Mem → Prop} {X40 : Int → Mem → Prop} {x2 : Int} {M : Mem} (hC : rC p R s m args meth c cells slots D aC ad 3 cX8_begin RX8 0 0 none) (hQ : ∀ (pc : Nat) (L : List (Nat × RV)) (M : Mem), decode cX8_begin pc = .ok (.return_, 1) → Q M → rG p l e R s m args below meth c cells slots Qs D aC ad 3 pc L [] M) (hX40 : ∀ (x2 : Int) (M : Mem), X40 x2 M → rG p l e R s m args below meth c cells slots Qs D aC ad 3 40 [(0, vR 1), (2, vI x2)] [] M) (hw : w_Trial_begin_B0 Q X40 x2 M) : rG p l e R s m args below meth c cells slots Qs D aC ad 3 40 [(0, vR 1), (2, vI x2)] [] M := by
  unfold w_Trial_begin_B0 at hw
  refine r_iload_n hC dX8_begin_40 rfl rfl ?_
  refine r_aload_n hC dX8_begin_41 rfl rfl ?_
  refine r_getI hC 10 rfl (by decide) kf8_58 rfl rfl dX8_begin_42 (fun b2 b2' => ?_)
  replace hw := hw _ rfl b2 b2'
  obtain ⟨o3, hw⟩ := hw
  obtain ⟨hwt, hwf⟩ := hw
  refine r_icmp_ge hC 61 dX8_begin_45 (by decide) o3.1 o3.2 (by omega) (by omega) (fun c5 => ?_) (fun c5 => ?_)
  · have hw := hwt c5
    exact hQ _ _ _ dX8_begin_61 hw
  · have hw := hwf c5
    refine r_aload_n hC dX8_begin_48 rfl rfl ?_
    refine r_getR hC 3 rfl (by decide) kf8_32 rfl rfl dX8_begin_49 ?_
    refine r_iload_n hC dX8_begin_52 rfl rfl ?_
    refine r_iconst hC dX8_begin_53 ?_
    obtain ⟨o6, hw⟩ := hw
    refine r_iast hC rfl o6.1 o6.2 (by decide) (by decide) (by decide) (by decide) dX8_begin_54 ?_
    replace hw := hw _ rfl
    refine r_iinc hC dX8_begin_55 rfl (by decide) ?_
    refine r_goto hC 40 dX8_begin_58 (by decide) ?_
    exact r_subk (hX40 _ _ hw) ⟨rfl, rfl, trivial⟩
def w_Trial_begin_L0 (Q : Mem → Prop) (x2 : Int) (M : Mem) : Prop :=
  ∀ X : Int → Mem → Prop, (∀ (x2 : Int) (M : Mem), w_Trial_begin_B0 Q X x2 M → X x2 M) → X x2 M
set_option maxRecDepth 100000 in
set_option maxHeartbeats 4000000 in
theorem s_Trial_begin_L0 {Q : Mem → Prop} {x2 : Int} {M : Mem} (hC : rC p R s m args meth c cells slots D aC ad 3 cX8_begin RX8 0 0 none) (hQ : ∀ (pc : Nat) (L : List (Nat × RV)) (M : Mem), decode cX8_begin pc = .ok (.return_, 1) → Q M → rG p l e R s m args below meth c cells slots Qs D aC ad 3 pc L [] M) (hw : w_Trial_begin_L0 Q x2 M) : rG p l e R s m args below meth c cells slots Qs D aC ad 3 40 [(0, vR 1), (2, vI x2)] [] M := by
  unfold w_Trial_begin_L0 at hw
  exact hw (fun x2 M => rG p l e R s m args below meth c cells slots Qs D aC ad 3 40 [(0, vR 1), (2, vI x2)] [] M) (fun x2 M hb => s_Trial_begin_B0 hC hQ (fun _ _ h => h) hb)
def w_Trial_begin (M : Mem) (x1 : Int) (Q : Mem → Prop) : Prop :=
  (0 ≤ x1 ∧ x1 ≤ 5) ∧ (∀ M2 : Mem, M2 = mset M 1 9 x1 → (0 ≤ x1 ∧ x1 < 6) ∧ (∀ a4 : Int, a4 = M2 21 x1 → 0 ≤ a4 → a4 ≤ 6 → ∀ M7 : Mem, M7 = mset M2 1 10 a4 → ∀ M9 : Mem, M9 = mset M7 1 12 0 → ∀ M11 : Mem, M11 = mset M9 1 13 0 → ∀ a12 : Int, a12 = M11 1 10 → 0 ≤ a12 → a12 ≤ 6 → ∀ M15 : Mem, M15 = mset M11 1 16 (a12 - 1) → w_Trial_begin_L0 Q 0 M15))
set_option maxRecDepth 100000 in
set_option maxHeartbeats 4000000 in
theorem s_Trial_begin {M : Mem} {x1 : Int} {Q : Mem → Prop} (hC : rC p R s m args meth c cells slots D aC ad 3 cX8_begin RX8 0 0 none) (hQ : ∀ (pc : Nat) (L : List (Nat × RV)) (M : Mem), decode cX8_begin pc = .ok (.return_, 1) → Q M → rG p l e R s m args below meth c cells slots Qs D aC ad 3 pc L [] M) (hw : w_Trial_begin M x1 Q) : rG p l e R s m args below meth c cells slots Qs D aC ad 3 0 [(0, vR 1), (1, vI x1)] [] M := by
  unfold w_Trial_begin at hw
  refine r_aload_n hC dX8_begin_0 rfl rfl ?_
  refine r_iload_n hC dX8_begin_1 rfl rfl ?_
  obtain ⟨o1, hw⟩ := hw
  refine r_putI hC 9 rfl (by decide) kf8_51 rfl rfl o1.1 o1.2 dX8_begin_2 ?_
  replace hw := hw _ rfl
  refine r_aload_n hC dX8_begin_5 rfl rfl ?_
  refine r_aload_n hC dX8_begin_6 rfl rfl ?_
  refine r_getR hC 0 rfl (by decide) kf8_12 rfl rfl dX8_begin_7 ?_
  refine r_getR hC 2 rfl (by decide) kf8_55 rfl rfl dX8_begin_10 ?_
  refine r_iload_n hC dX8_begin_13 rfl rfl ?_
  obtain ⟨o3, hw⟩ := hw
  refine r_iald hC rfl o3.1 o3.2 (by decide) (by decide) dX8_begin_14 (fun b5 b5' => ?_)
  replace hw := hw _ rfl b5 b5'
  refine r_putI hC 10 rfl (by decide) kf8_58 rfl rfl (by omega) (by omega) dX8_begin_15 ?_
  replace hw := hw _ rfl
  refine r_aload_n hC dX8_begin_18 rfl rfl ?_
  refine r_iconst hC dX8_begin_19 ?_
  refine r_putI hC 12 rfl (by decide) kf8_60 rfl rfl (by decide) (by decide) dX8_begin_20 ?_
  replace hw := hw _ rfl
  refine r_aload_n hC dX8_begin_23 rfl rfl ?_
  refine r_iconst hC dX8_begin_24 ?_
  refine r_putI hC 13 rfl (by decide) kf8_63 rfl rfl (by decide) (by decide) dX8_begin_25 ?_
  replace hw := hw _ rfl
  refine r_aload_n hC dX8_begin_28 rfl rfl ?_
  refine r_aload_n hC dX8_begin_29 rfl rfl ?_
  refine r_getI hC 10 rfl (by decide) kf8_58 rfl rfl dX8_begin_30 (fun b13 b13' => ?_)
  replace hw := hw _ rfl b13 b13'
  refine r_iconst hC dX8_begin_33 ?_
  refine r_isub hC dX8_begin_34 ?_
  refine r_putI hC 16 rfl (by decide) kf8_66 rfl rfl (by omega) (by omega) dX8_begin_35 ?_
  replace hw := hw _ rfl
  refine r_iconst hC dX8_begin_38 ?_
  refine r_istore_n hC dX8_begin_39 rfl (by decide) ?_
  exact r_subk (s_Trial_begin_L0 hC hQ hw) ⟨rfl, rfl, trivial⟩
set_option maxRecDepth 100000 in
set_option maxHeartbeats 4000000 in
theorem d_Trial_begin {l : Launch} {D : va_G} {aC : Nat → ClassId} {ad : Nat → Nat} {M : Mem} {x1 : Int} {Q : Mem → Prop} (hw : w_Trial_begin M x1 Q) : Does l D aC ad yX8_begin cX8_begin 3 none 0 0 [vR 1, vI x1] M (pV Q) :=
  Does.of (by decide) (Nat.le_of_ble_eq_true rfl) (fun p e R s m args below meth c hC => r_subk (s_Trial_begin hC (fun pc L M d h => r_vret hC d ⟨rfl, h⟩) hw) ⟨rfl, rfl, trivial⟩)
end
