section
variable {p : Program} {l : Launch} {e : Env} {R : Room} {s : State} {m : MethodId} {args : Array Value} {below : List Frame} {meth : Method} {c : Code} {cells slots : Nat} {Qs : State → Prop} {D : va_G} {aC : Nat → ClassId} {ad : Nat → Nat}
theorem dd_9_fewestAgainst : yX9_fewestAgainst.cls ≠ "java/lang/invoke/MethodHandle" ∧ yX9_fewestAgainst.cls ≠ "java/lang/invoke/VarHandle" ∧ (parseMethodDescriptor yX9_fewestAgainst.desc).map (fun d => d.parameters.length) = some 1 := by decide +kernel
/-- SoupSand.toStrike -/
def w_S_toStrike (M : Mem) (x1 : Int) (Q : Int → Mem → Prop) : Prop :=
  w_Ground_hasColumn M x1 (fun a1 => (-2147483648 ≤ a1 ∧ a1 ≤ 2147483647) ∧ ((¬ (a1 = 0) → w_Words_look M x1 (fun M6 => w_Words_fewestAgainst M6 x1 (fun a7 => Q a7 M6))) ∧ (a1 = 0 → Q (-1001) M)))
set_option maxRecDepth 100000 in
set_option maxHeartbeats 4000000 in
theorem s_S_toStrike {M : Mem} {x1 : Int} {Q : Int → Mem → Prop} (hC : rC p R s m args meth c cells slots D aC ad 2 cX11_toStrike RX11 5 122 (some .int)) (hQ : ∀ (pc : Nat) (L : List (Nat × RV)) (z : Int) (M : Mem), decode cX11_toStrike pc = .ok (.ireturn, 1) → Q z M → rG p l e R s m args below meth c cells slots Qs D aC ad 2 pc L [vI z] M) (hw : w_S_toStrike M x1 Q) : rG p l e R s m args below meth c cells slots Qs D aC ad 2 0 [(0, vR 0), (1, vI x1)] [] M := by
  unfold w_S_toStrike at hw
  refine r_aload_n hC dX11_toStrike_0 rfl rfl ?_
  refine r_getR hC 1 rfl (by decide) kf11_20 rfl rfl dX11_toStrike_1 ?_
  refine r_iload_n hC dX11_toStrike_4 rfl rfl ?_
  refine r_callV hC (d_Ground_hasColumn hw) rfl kC0_hasColumn km11_80 kI0_hasColumn kS0_hasColumn kN0 dd_0_hasColumn ⟨Nat.le_of_ble_eq_true rfl, Nat.le_of_ble_eq_true rfl⟩ rfl (Nat.le_of_ble_eq_true rfl) dX11_toStrike_5 (fun r M' hp => ?_)
  obtain ⟨rfl, a1, rfl, hw⟩ := hp
  try dsimp only at hw
  obtain ⟨o2, hw⟩ := hw
  obtain ⟨hwt, hwf⟩ := hw
  refine r_if_ne hC 15 dX11_toStrike_8 (by decide) o2.1 o2.2 (fun c4 => ?_) (fun c4 => ?_)
  · have hw := hwt c4
    refine r_aload_n hC dX11_toStrike_15 rfl rfl ?_
    refine r_getR hC 4 rfl (by decide) kf11_34 rfl rfl dX11_toStrike_16 ?_
    refine r_aload_n hC dX11_toStrike_19 rfl rfl ?_
    refine r_getR hC 0 rfl (by decide) kf11_10 rfl rfl dX11_toStrike_20 ?_
    refine r_iload_n hC dX11_toStrike_23 rfl rfl ?_
    refine r_callV hC (d_Words_look hw) rfl kC9_look km11_188 kI9_look kS9_look kN9 dd_9_look ⟨Nat.le_of_ble_eq_true rfl, Nat.le_of_ble_eq_true rfl⟩ rfl (Nat.le_of_ble_eq_true rfl) dX11_toStrike_24 (fun r M' hp => ?_)
    obtain ⟨rfl, hw⟩ := hp
    try dsimp only at hw
    refine r_aload_n hC dX11_toStrike_27 rfl rfl ?_
    refine r_getR hC 4 rfl (by decide) kf11_34 rfl rfl dX11_toStrike_28 ?_
    refine r_iload_n hC dX11_toStrike_31 rfl rfl ?_
    refine r_callV hC (d_Words_fewestAgainst hw) rfl kC9_fewestAgainst km11_274 kI9_fewestAgainst kS9_fewestAgainst kN9 dd_9_fewestAgainst ⟨Nat.le_of_ble_eq_true rfl, Nat.le_of_ble_eq_true rfl⟩ rfl (Nat.le_of_ble_eq_true rfl) dX11_toStrike_32 (fun r M' hp => ?_)
    obtain ⟨rfl, a7, rfl, hw⟩ := hp
    try dsimp only at hw
    exact hQ _ _ _ _ dX11_toStrike_35 hw
  · have hw := hwf c4
    refine r_sipush hC dX11_toStrike_11 (by decide) ?_
    exact hQ _ _ _ _ dX11_toStrike_14 hw
set_option maxRecDepth 100000 in
set_option maxHeartbeats 4000000 in
theorem d_S_toStrike {l : Launch} {D : va_G} {aC : Nat → ClassId} {ad : Nat → Nat} {M : Mem} {x1 : Int} {Q : Int → Mem → Prop} (hw : w_S_toStrike M x1 Q) : Does l D aC ad yX11_toStrike cX11_toStrike 2 (some .int) 5 122 [vR 0, vI x1] M (pI Q) :=
  Does.of (by decide) (Nat.le_of_ble_eq_true rfl) (fun p e R s m args below meth c hC => r_subk (s_S_toStrike hC (fun pc L z M d h => r_iret hC d ⟨z, rfl, h⟩) hw) ⟨rfl, rfl, trivial⟩)
/-- SoupSand$Houses.addHouse -/
def w_Houses_addHouse (M : Mem) (x1 : Int) (x2 : Int) (x3 : Int) (Q : Int → Mem → Prop) : Prop :=
  ∀ a1 : Int, a1 = M 6 3 → 0 ≤ a1 → a1 ≤ 8 → ((0 ≤ a1 ∧ a1 < 8) ∧ (0 ≤ x1 ∧ x1 ≤ 5)) ∧ (∀ M4 : Mem, M4 = mset M 38 a1 x1 → ∀ a5 : Int, a5 = M4 6 3 → 0 ≤ a5 → a5 ≤ 8 → ((0 ≤ a5 ∧ a5 < 8) ∧ (0 ≤ x2 ∧ x2 ≤ 60)) ∧ (∀ M8 : Mem, M8 = mset M4 39 a5 x2 → ∀ a9 : Int, a9 = M8 6 3 → 0 ≤ a9 → a9 ≤ 8 → ((0 ≤ a9 ∧ a9 < 8) ∧ (0 ≤ x3 ∧ x3 ≤ 9999)) ∧ (∀ M12 : Mem, M12 = mset M8 40 a9 x3 → ∀ a13 : Int, a13 = M12 6 3 → 0 ≤ a13 → a13 ≤ 8 → (0 ≤ a13 + 1 ∧ a13 + 1 ≤ 8) ∧ (∀ M16 : Mem, M16 = mset M12 6 3 (a13 + 1) → ∀ a17 : Int, a17 = M16 6 3 → 0 ≤ a17 → a17 ≤ 8 → Q (a17 - 1) M16))))
set_option maxRecDepth 100000 in
set_option maxHeartbeats 4000000 in
theorem s_Houses_addHouse {M : Mem} {x1 : Int} {x2 : Int} {x3 : Int} {Q : Int → Mem → Prop} (hC : rC p R s m args meth c cells slots D aC ad 4 cX1_addHouse RX1 0 0 (some .int)) (hQ : ∀ (pc : Nat) (L : List (Nat × RV)) (z : Int) (M : Mem), decode cX1_addHouse pc = .ok (.ireturn, 1) → Q z M → rG p l e R s m args below meth c cells slots Qs D aC ad 4 pc L [vI z] M) (hw : w_Houses_addHouse M x1 x2 x3 Q) : rG p l e R s m args below meth c cells slots Qs D aC ad 4 0 [(0, vR 6), (1, vI x1), (2, vI x2), (3, vI x3)] [] M := by
  unfold w_Houses_addHouse at hw
  refine r_aload_n hC dX1_addHouse_0 rfl rfl ?_
  refine r_getR hC 0 rfl (by decide) kf1_9 rfl rfl dX1_addHouse_1 ?_
  refine r_aload_n hC dX1_addHouse_4 rfl rfl ?_
  refine r_getI hC 3 rfl (by decide) kf1_21 rfl rfl dX1_addHouse_5 (fun b2 b2' => ?_)
  replace hw := hw _ rfl b2 b2'
  refine r_iload_n hC dX1_addHouse_8 rfl rfl ?_
  obtain ⟨o3, hw⟩ := hw
  refine r_iast hC rfl o3.1.1 o3.1.2 (by decide) (by decide) o3.2.1 o3.2.2 dX1_addHouse_9 ?_
  replace hw := hw _ rfl
  refine r_aload_n hC dX1_addHouse_10 rfl rfl ?_
  refine r_getR hC 1 rfl (by decide) kf1_15 rfl rfl dX1_addHouse_11 ?_
  refine r_aload_n hC dX1_addHouse_14 rfl rfl ?_
  refine r_getI hC 3 rfl (by decide) kf1_21 rfl rfl dX1_addHouse_15 (fun b6 b6' => ?_)
  replace hw := hw _ rfl b6 b6'
  refine r_iload_n hC dX1_addHouse_18 rfl rfl ?_
  obtain ⟨o7, hw⟩ := hw
  refine r_iast hC rfl o7.1.1 o7.1.2 (by decide) (by decide) o7.2.1 o7.2.2 dX1_addHouse_19 ?_
  replace hw := hw _ rfl
  refine r_aload_n hC dX1_addHouse_20 rfl rfl ?_
  refine r_getR hC 2 rfl (by decide) kf1_18 rfl rfl dX1_addHouse_21 ?_
  refine r_aload_n hC dX1_addHouse_24 rfl rfl ?_
  refine r_getI hC 3 rfl (by decide) kf1_21 rfl rfl dX1_addHouse_25 (fun b10 b10' => ?_)
  replace hw := hw _ rfl b10 b10'
  refine r_iload_n hC dX1_addHouse_28 rfl rfl ?_
  obtain ⟨o11, hw⟩ := hw
  refine r_iast hC rfl o11.1.1 o11.1.2 (by decide) (by decide) o11.2.1 o11.2.2 dX1_addHouse_29 ?_
  replace hw := hw _ rfl
  refine r_aload_n hC dX1_addHouse_30 rfl rfl ?_
  refine r_dup hC dX1_addHouse_31 rfl ?_
  refine r_getI hC 3 rfl (by decide) kf1_21 rfl rfl dX1_addHouse_32 (fun b14 b14' => ?_)
  replace hw := hw _ rfl b14 b14'
  refine r_iconst hC dX1_addHouse_35 ?_
  refine r_iadd hC dX1_addHouse_36 ?_
  obtain ⟨o15, hw⟩ := hw
  refine r_putI hC 3 rfl (by decide) kf1_21 rfl rfl o15.1 o15.2 dX1_addHouse_37 ?_
  replace hw := hw _ rfl
  refine r_aload_n hC dX1_addHouse_40 rfl rfl ?_
  refine r_getI hC 3 rfl (by decide) kf1_21 rfl rfl dX1_addHouse_41 (fun b18 b18' => ?_)
  replace hw := hw _ rfl b18 b18'
  refine r_iconst hC dX1_addHouse_44 ?_
  refine r_isub hC dX1_addHouse_45 ?_
  exact hQ _ _ _ _ dX1_addHouse_46 hw
set_option maxRecDepth 100000 in
set_option maxHeartbeats 4000000 in
theorem d_Houses_addHouse {l : Launch} {D : va_G} {aC : Nat → ClassId} {ad : Nat → Nat} {M : Mem} {x1 : Int} {x2 : Int} {x3 : Int} {Q : Int → Mem → Prop} (hw : w_Houses_addHouse M x1 x2 x3 Q) : Does l D aC ad yX1_addHouse cX1_addHouse 4 (some .int) 0 0 [vR 6, vI x1, vI x2, vI x3] M (pI Q) :=
  Does.of (by decide) (Nat.le_of_ble_eq_true rfl) (fun p e R s m args below meth c hC => r_subk (s_Houses_addHouse hC (fun pc L z M d h => r_iret hC d ⟨z, rfl, h⟩) hw) ⟨rfl, rfl, rfl, rfl, trivial⟩)
theorem dd_1_addHouse : yX1_addHouse.cls ≠ "java/lang/invoke/MethodHandle" ∧ yX1_addHouse.cls ≠ "java/lang/invoke/VarHandle" ∧ (parseMethodDescriptor yX1_addHouse.desc).map (fun d => d.parameters.length) = some 3 := by decide +kernel
/-- SoupSand.house -/
def w_S_house (M : Mem) (x1 : Int) (x2 : Int) (x3 : Int) (Q : Int → Mem → Prop) : Prop :=
  w_Ground_hasColumn M x1 (fun a1 => (-2147483648 ≤ a1 ∧ a1 ≤ 2147483647) ∧ ((¬ (a1 = 0) → w_S_beyond M x2 1 60 (fun a5 => (-2147483648 ≤ a5 ∧ a5 ≤ 2147483647) ∧ ((¬ (a5 = 0) → Q (-1002) M) ∧ (a5 = 0 → w_S_beyond M x3 0 9999 (fun a9 => (-2147483648 ≤ a9 ∧ a9 ≤ 2147483647) ∧ ((a9 = 0 → ∀ a13 : Int, a13 = M 6 3 → 0 ≤ a13 → a13 ≤ 8 → (a13 < 8 → w_Houses_addHouse M x1 x2 x3 (fun a18 M19 => Q a18 M19)) ∧ (¬ (a13 < 8) → Q (-1004) M)) ∧ (¬ (a9 = 0) → Q (-1002) M))))))) ∧ (a1 = 0 → Q (-1001) M)))
set_option maxRecDepth 100000 in
set_option maxHeartbeats 4000000 in
theorem s_S_house {M : Mem} {x1 : Int} {x2 : Int} {x3 : Int} {Q : Int → Mem → Prop} (hC : rC p R s m args meth c cells slots D aC ad 4 cX11_house RX11 1 23 (some .int)) (hQ : ∀ (pc : Nat) (L : List (Nat × RV)) (z : Int) (M : Mem), decode cX11_house pc = .ok (.ireturn, 1) → Q z M → rG p l e R s m args below meth c cells slots Qs D aC ad 4 pc L [vI z] M) (hw : w_S_house M x1 x2 x3 Q) : rG p l e R s m args below meth c cells slots Qs D aC ad 4 0 [(0, vR 0), (1, vI x1), (2, vI x2), (3, vI x3)] [] M := by
  unfold w_S_house at hw
  refine r_aload_n hC dX11_house_0 rfl rfl ?_
  refine r_getR hC 1 rfl (by decide) kf11_20 rfl rfl dX11_house_1 ?_
  refine r_iload_n hC dX11_house_4 rfl rfl ?_
  refine r_callV hC (d_Ground_hasColumn hw) rfl kC0_hasColumn km11_80 kI0_hasColumn kS0_hasColumn kN0 dd_0_hasColumn ⟨Nat.le_of_ble_eq_true rfl, Nat.le_of_ble_eq_true rfl⟩ rfl (Nat.le_of_ble_eq_true rfl) dX11_house_5 (fun r M' hp => ?_)
  obtain ⟨rfl, a1, rfl, hw⟩ := hp
  try dsimp only at hw
  obtain ⟨o2, hw⟩ := hw
  obtain ⟨hwt, hwf⟩ := hw
  refine r_if_ne hC 15 dX11_house_8 (by decide) o2.1 o2.2 (fun c4 => ?_) (fun c4 => ?_)
  · have hw := hwt c4
    refine r_iload_n hC dX11_house_15 rfl rfl ?_
    refine r_iconst hC dX11_house_16 ?_
    refine r_bipush hC dX11_house_17 (by decide) ?_
    refine r_callS hC (d_S_beyond hw) kC11_beyond km11_86 kT11_beyond kN11 dd_11_beyond ⟨Nat.le_of_ble_eq_true rfl, Nat.le_of_ble_eq_true rfl⟩ rfl (Nat.le_of_ble_eq_true rfl) dX11_house_19 (fun r M' hp => ?_)
    obtain ⟨rfl, a5, rfl, hw⟩ := hp
    try dsimp only at hw
    obtain ⟨o6, hw⟩ := hw
    obtain ⟨hwt, hwf⟩ := hw
    refine r_if_ne hC 36 dX11_house_22 (by decide) o6.1 o6.2 (fun c8 => ?_) (fun c8 => ?_)
    · have hw := hwt c8
      refine r_sipush hC dX11_house_36 (by decide) ?_
      exact hQ _ _ _ _ dX11_house_39 hw
    · have hw := hwf c8
      refine r_iload_n hC dX11_house_25 rfl rfl ?_
      refine r_iconst hC dX11_house_26 ?_
      refine r_sipush hC dX11_house_27 (by decide) ?_
      refine r_callS hC (d_S_beyond hw) kC11_beyond km11_86 kT11_beyond kN11 dd_11_beyond ⟨Nat.le_of_ble_eq_true rfl, Nat.le_of_ble_eq_true rfl⟩ rfl (Nat.le_of_ble_eq_true rfl) dX11_house_30 (fun r M' hp => ?_)
      obtain ⟨rfl, a9, rfl, hw⟩ := hp
      try dsimp only at hw
      obtain ⟨o10, hw⟩ := hw
      obtain ⟨hwt, hwf⟩ := hw
      refine r_if_eq hC 40 dX11_house_33 (by decide) o10.1 o10.2 (fun c12 => ?_) (fun c12 => ?_)
      · have hw := hwt c12
        refine r_aload_n hC dX11_house_40 rfl rfl ?_
        refine r_getR hC 5 rfl (by decide) kf11_41 rfl rfl dX11_house_41 ?_
        refine r_getI hC 3 rfl (by decide) kf11_169 rfl rfl dX11_house_44 (fun b14 b14' => ?_)
        replace hw := hw _ rfl b14 b14'
        refine r_bipush hC dX11_house_47 (by decide) ?_
        obtain ⟨hwt, hwf⟩ := hw
        refine r_icmp_lt hC 56 dX11_house_49 (by decide) (by omega) (by omega) (by decide) (by decide) (fun c17 => ?_) (fun c17 => ?_)
        · have hw := hwt c17
          refine r_aload_n hC dX11_house_56 rfl rfl ?_
          refine r_getR hC 5 rfl (by decide) kf11_41 rfl rfl dX11_house_57 ?_
          refine r_iload_n hC dX11_house_60 rfl rfl ?_
          refine r_iload_n hC dX11_house_61 rfl rfl ?_
          refine r_iload_n hC dX11_house_62 rfl rfl ?_
          refine r_callV hC (d_Houses_addHouse hw) rfl kC1_addHouse km11_277 kI1_addHouse kS1_addHouse kN1 dd_1_addHouse ⟨Nat.le_of_ble_eq_true rfl, Nat.le_of_ble_eq_true rfl⟩ rfl (Nat.le_of_ble_eq_true rfl) dX11_house_63 (fun r M' hp => ?_)
          obtain ⟨a18, rfl, hw⟩ := hp
          try dsimp only at hw
          exact hQ _ _ _ _ dX11_house_66 hw
        · have hw := hwf c17
          refine r_sipush hC dX11_house_52 (by decide) ?_
          exact hQ _ _ _ _ dX11_house_55 hw
      · have hw := hwf c12
        refine r_sipush hC dX11_house_36 (by decide) ?_
        exact hQ _ _ _ _ dX11_house_39 hw
  · have hw := hwf c4
    refine r_sipush hC dX11_house_11 (by decide) ?_
    exact hQ _ _ _ _ dX11_house_14 hw
set_option maxRecDepth 100000 in
set_option maxHeartbeats 4000000 in
theorem d_S_house {l : Launch} {D : va_G} {aC : Nat → ClassId} {ad : Nat → Nat} {M : Mem} {x1 : Int} {x2 : Int} {x3 : Int} {Q : Int → Mem → Prop} (hw : w_S_house M x1 x2 x3 Q) : Does l D aC ad yX11_house cX11_house 4 (some .int) 1 23 [vR 0, vI x1, vI x2, vI x3] M (pI Q) :=
  Does.of (by decide) (Nat.le_of_ble_eq_true rfl) (fun p e R s m args below meth c hC => r_subk (s_S_house hC (fun pc L z M d h => r_iret hC d ⟨z, rfl, h⟩) hw) ⟨rfl, rfl, rfl, rfl, trivial⟩)
/-- SoupSand$Houses.hasHouse -/
def w_Houses_hasHouse (M : Mem) (x1 : Int) (Q : Int → Prop) : Prop :=
  (-2147483648 ≤ x1 ∧ x1 ≤ 2147483647) ∧ ((x1 < 0 → Q 0) ∧ (¬ (x1 < 0) → ∀ a5 : Int, a5 = M 6 3 → 0 ≤ a5 → a5 ≤ 8 → (-2147483648 ≤ x1 ∧ x1 ≤ 2147483647) ∧ ((a5 ≤ x1 → Q 0) ∧ (¬ (a5 ≤ x1) → Q 1))))
set_option maxRecDepth 100000 in
set_option maxHeartbeats 4000000 in
theorem s_Houses_hasHouse {M : Mem} {x1 : Int} {Q : Int → Prop} (hC : rC p R s m args meth c cells slots D aC ad 2 cX1_hasHouse RX1 0 0 (some .boolean)) (hQ : ∀ (pc : Nat) (L : List (Nat × RV)) (z : Int), decode cX1_hasHouse pc = .ok (.ireturn, 1) → 0 ≤ z → z ≤ 1 → Q z → rG p l e R s m args below meth c cells slots Qs D aC ad 2 pc L [vI z] M) (hw : w_Houses_hasHouse M x1 Q) : rG p l e R s m args below meth c cells slots Qs D aC ad 2 0 [(0, vR 6), (1, vI x1)] [] M := by
  unfold w_Houses_hasHouse at hw
  refine r_iload_n hC dX1_hasHouse_0 rfl rfl ?_
  obtain ⟨o1, hw⟩ := hw
  obtain ⟨hwt, hwf⟩ := hw
  refine r_if_lt hC 16 dX1_hasHouse_1 (by decide) o1.1 o1.2 (fun c3 => ?_) (fun c3 => ?_)
  · have hw := hwt c3
    refine r_iconst hC dX1_hasHouse_16 ?_
    exact hQ _ _ _ dX1_hasHouse_17 (by decide) (by decide) hw
  · have hw := hwf c3
    refine r_iload_n hC dX1_hasHouse_4 rfl rfl ?_
    refine r_aload_n hC dX1_hasHouse_5 rfl rfl ?_
    refine r_getI hC 3 rfl (by decide) kf1_21 rfl rfl dX1_hasHouse_6 (fun b6 b6' => ?_)
    replace hw := hw _ rfl b6 b6'
    obtain ⟨o7, hw⟩ := hw
    obtain ⟨hwt, hwf⟩ := hw
    refine r_icmp_ge hC 16 dX1_hasHouse_9 (by decide) o7.1 o7.2 (by omega) (by omega) (fun c9 => ?_) (fun c9 => ?_)
    · have hw := hwt c9
      refine r_iconst hC dX1_hasHouse_16 ?_
      exact hQ _ _ _ dX1_hasHouse_17 (by decide) (by decide) hw
    · have hw := hwf c9
      refine r_iconst hC dX1_hasHouse_12 ?_
      refine r_goto hC 17 dX1_hasHouse_13 (by decide) ?_
      exact hQ _ _ _ dX1_hasHouse_17 (by decide) (by decide) hw
set_option maxRecDepth 100000 in
set_option maxHeartbeats 4000000 in
theorem d_Houses_hasHouse {l : Launch} {D : va_G} {aC : Nat → ClassId} {ad : Nat → Nat} {M : Mem} {x1 : Int} {Q : Int → Prop} (hw : w_Houses_hasHouse M x1 Q) : Does l D aC ad yX1_hasHouse cX1_hasHouse 2 (some .boolean) 0 0 [vR 6, vI x1] M (qI M Q) :=
  Does.of (by decide) (Nat.le_of_ble_eq_true rfl) (fun p e R s m args below meth c hC => r_subk (s_Houses_hasHouse hC (fun pc L z d z1 z2 h => r_zret hC d z1 z2 ⟨rfl, ⟨z, rfl, h⟩⟩) hw) ⟨rfl, rfl, trivial⟩)
/-- SoupSand$Rules.mark -/
def w_Rules_mark (M : Mem) (Q : Int → Prop) : Prop :=
  ∀ a2 : Int, a2 = M 30 23 → 0 ≤ a2 → a2 ≤ 999 → Q a2
set_option maxRecDepth 100000 in
set_option maxHeartbeats 4000000 in
theorem s_Rules_mark {M : Mem} {Q : Int → Prop} (hC : rC p R s m args meth c cells slots D aC ad 1 cX3_mark RX3 0 0 (some .int)) (hQ : ∀ (pc : Nat) (L : List (Nat × RV)) (z : Int), decode cX3_mark pc = .ok (.ireturn, 1) → Q z → rG p l e R s m args below meth c cells slots Qs D aC ad 1 pc L [vI z] M) (hw : w_Rules_mark M Q) : rG p l e R s m args below meth c cells slots Qs D aC ad 1 0 [(0, vR 4)] [] M := by
  unfold w_Rules_mark at hw
  refine r_aload_n hC dX3_mark_0 rfl rfl ?_
  refine r_getR hC 0 rfl (by decide) kf3_9 rfl rfl dX3_mark_1 ?_
  refine r_bipush hC dX3_mark_4 (by decide) ?_
  refine r_iald hC rfl (by decide) (by decide) (by decide) (by decide) dX3_mark_6 (fun b3 b3' => ?_)
  replace hw := hw _ rfl b3 b3'
  exact hQ _ _ _ dX3_mark_7 hw
set_option maxRecDepth 100000 in
set_option maxHeartbeats 4000000 in
theorem d_Rules_mark {l : Launch} {D : va_G} {aC : Nat → ClassId} {ad : Nat → Nat} {M : Mem} {Q : Int → Prop} (hw : w_Rules_mark M Q) : Does l D aC ad yX3_mark cX3_mark 1 (some .int) 0 0 [vR 4] M (qI M Q) :=
  Does.of (by decide) (Nat.le_of_ble_eq_true rfl) (fun p e R s m args below meth c hC => r_subk (s_Rules_mark hC (fun pc L z d h => r_iret hC d ⟨rfl, ⟨z, rfl, h⟩⟩) hw) ⟨rfl, trivial⟩)
/-- SoupSand$Trial.partOf -/
def w_Trial_partOf (M : Mem) (x1 : Int) (x2 : Int) (Q : Int → Prop) : Prop :=
  (0 ≤ x1 ∧ x1 < 6) ∧ (∀ a2 : Int, a2 = M 15 x1 → -1 ≤ a2 → a2 ≤ 59 → (¬ (a2 = (-1)) → ∀ a7 : Int, a7 = M 1 9 → 0 ≤ a7 → a7 ≤ 5 → (0 ≤ (a7 * 6) + x1 ∧ (a7 * 6) + x1 < 36) ∧ (∀ a10 : Int, a10 = M 23 ((a7 * 6) + x1) → 0 ≤ a10 → a10 ≤ 60 → ∀ a12 : Int, a12 = M 1 9 → 0 ≤ a12 → a12 ≤ 5 → w_Ground_depthOf M a12 x1 (fun a14 => (-2147483648 ≤ (2 * x2) - a14 ∧ (2 * x2) - a14 ≤ 2147483647) ∧ ((-2147483648 ≤ min a10 ((2 * x2) - a14) ∧ min a10 ((2 * x2) - a14) ≤ 2147483647) ∧ (w_Trial_ruleOf M x1 3 (fun a19 => (0 ≤ (max 0 (min a10 ((2 * x2) - a14))) * a19 ∧ (max 0 (min a10 ((2 * x2) - a14))) * a19 ≤ 2147483647) ∧ (Q (((max 0 (min a10 ((2 * x2) - a14))) * a19) / 100)))))))) ∧ (a2 = (-1) → Q 0))
set_option maxRecDepth 100000 in
set_option maxHeartbeats 4000000 in
theorem s_Trial_partOf {M : Mem} {x1 : Int} {x2 : Int} {Q : Int → Prop} (hC : rC p R s m args meth c cells slots D aC ad 4 cX8_partOf RX8 1 24 (some .int)) (hQ : ∀ (pc : Nat) (L : List (Nat × RV)) (z : Int), decode cX8_partOf pc = .ok (.ireturn, 1) → Q z → rG p l e R s m args below meth c cells slots Qs D aC ad 4 pc L [vI z] M) (hw : w_Trial_partOf M x1 x2 Q) : rG p l e R s m args below meth c cells slots Qs D aC ad 4 0 [(0, vR 1), (1, vI x1), (2, vI x2)] [] M := by
  unfold w_Trial_partOf at hw
  refine r_aload_n hC dX8_partOf_0 rfl rfl ?_
  refine r_getR hC 5 rfl (by decide) kf8_39 rfl rfl dX8_partOf_1 ?_
  refine r_iload_n hC dX8_partOf_4 rfl rfl ?_
  obtain ⟨o1, hw⟩ := hw
  refine r_iald hC rfl o1.1 o1.2 (by decide) (by decide) dX8_partOf_5 (fun b3 b3' => ?_)
  replace hw := hw _ rfl b3 b3'
  refine r_iconst hC dX8_partOf_6 ?_
  obtain ⟨hwt, hwf⟩ := hw
  refine r_icmp_ne hC 12 dX8_partOf_7 (by decide) (by omega) (by omega) (by decide) (by decide) (fun c6 => ?_) (fun c6 => ?_)
  · have hw := hwt c6
    refine r_aload_n hC dX8_partOf_12 rfl rfl ?_
    refine r_getR hC 0 rfl (by decide) kf8_12 rfl rfl dX8_partOf_13 ?_
    refine r_getR hC 4 rfl (by decide) kf8_152 rfl rfl dX8_partOf_16 ?_
    refine r_aload_n hC dX8_partOf_19 rfl rfl ?_
    refine r_getI hC 9 rfl (by decide) kf8_51 rfl rfl dX8_partOf_20 (fun b8 b8' => ?_)
    replace hw := hw _ rfl b8 b8'
    refine r_bipush hC dX8_partOf_23 (by decide) ?_
    refine r_imul hC dX8_partOf_25 ?_
    refine r_iload_n hC dX8_partOf_26 rfl rfl ?_
    refine r_iadd hC dX8_partOf_27 ?_
    obtain ⟨o9, hw⟩ := hw
    refine r_iald hC rfl o9.1 o9.2 (by decide) (by decide) dX8_partOf_28 (fun b11 b11' => ?_)
    replace hw := hw _ rfl b11 b11'
    refine r_iconst hC dX8_partOf_29 ?_
    refine r_iload_n hC dX8_partOf_30 rfl rfl ?_
    refine r_imul hC dX8_partOf_31 ?_
    refine r_aload_n hC dX8_partOf_32 rfl rfl ?_
    refine r_getR hC 0 rfl (by decide) kf8_12 rfl rfl dX8_partOf_33 ?_
    refine r_aload_n hC dX8_partOf_36 rfl rfl ?_
    refine r_getI hC 9 rfl (by decide) kf8_51 rfl rfl dX8_partOf_37 (fun b13 b13' => ?_)
    replace hw := hw _ rfl b13 b13'
    refine r_iload_n hC dX8_partOf_40 rfl rfl ?_
    refine r_callV hC (d_Ground_depthOf hw) rfl kC0_depthOf km8_155 kI0_depthOf kS0_depthOf kN0 dd_0_depthOf ⟨Nat.le_of_ble_eq_true rfl, Nat.le_of_ble_eq_true rfl⟩ rfl (Nat.le_of_ble_eq_true rfl) dX8_partOf_41 (fun r M' hp => ?_)
    obtain ⟨rfl, a14, rfl, hw⟩ := hp
    try dsimp only at hw
    refine r_isub hC dX8_partOf_44 ?_
    obtain ⟨o16, hw⟩ := hw
    refine r_min hC km8_139 (by decide) (Nat.le_of_ble_eq_true rfl) dX8_partOf_45 (by omega) (by omega) o16.1 o16.2 ?_
    refine r_istore_n hC dX8_partOf_48 rfl (by decide) ?_
    refine r_iconst hC dX8_partOf_49 ?_
    refine r_iload_n hC dX8_partOf_50 rfl rfl ?_
    obtain ⟨o18, hw⟩ := hw
    refine r_max hC km8_112 (by decide) (Nat.le_of_ble_eq_true rfl) dX8_partOf_51 (by decide) (by decide) o18.1 o18.2 ?_
    refine r_aload_n hC dX8_partOf_54 rfl rfl ?_
    refine r_iload_n hC dX8_partOf_55 rfl rfl ?_
    refine r_iconst hC dX8_partOf_56 ?_
    refine r_callV hC (d_Trial_ruleOf hw) rfl kC8_ruleOf km8_136 kI8_ruleOf kS8_ruleOf kN8 dd_8_ruleOf ⟨Nat.le_of_ble_eq_true rfl, Nat.le_of_ble_eq_true rfl⟩ rfl (Nat.le_of_ble_eq_true rfl) dX8_partOf_57 (fun r M' hp => ?_)
    obtain ⟨rfl, a19, rfl, hw⟩ := hp
    try dsimp only at hw
    refine r_imul hC dX8_partOf_60 ?_
    refine r_bipush hC dX8_partOf_61 (by decide) ?_
    obtain ⟨o20, hw⟩ := hw
    refine r_idiv hC dX8_partOf_63 o20.1 o20.2 (by decide) (by decide) ?_
    exact hQ _ _ _ dX8_partOf_64 hw
  · have hw := hwf c6
    refine r_iconst hC dX8_partOf_10 ?_
    exact hQ _ _ _ dX8_partOf_11 hw
set_option maxRecDepth 100000 in
set_option maxHeartbeats 4000000 in
theorem d_Trial_partOf {l : Launch} {D : va_G} {aC : Nat → ClassId} {ad : Nat → Nat} {M : Mem} {x1 : Int} {x2 : Int} {Q : Int → Prop} (hw : w_Trial_partOf M x1 x2 Q) : Does l D aC ad yX8_partOf cX8_partOf 4 (some .int) 1 24 [vR 1, vI x1, vI x2] M (qI M Q) :=
  Does.of (by decide) (Nat.le_of_ble_eq_true rfl) (fun p e R s m args below meth c hC => r_subk (s_Trial_partOf hC (fun pc L z d h => r_iret hC d ⟨rfl, ⟨z, rfl, h⟩⟩) hw) ⟨rfl, rfl, rfl, trivial⟩)
theorem dd_8_partOf : yX8_partOf.cls ≠ "java/lang/invoke/MethodHandle" ∧ yX8_partOf.cls ≠ "java/lang/invoke/VarHandle" ∧ (parseMethodDescriptor yX8_partOf.desc).map (fun d => d.parameters.length) = some 2 := by decide +kernel
/-- SoupSand$Trial.sinkOf -/
def w_Trial_sinkOf_B0 (Q : Int → Prop) (x1 : Int) (M : Mem) (X4 : Int → Int → Prop) (x2 : Int) (x3 : Int) : Prop :=
  ∀ a1 : Int, a1 = M 1 10 → 0 ≤ a1 → a1 ≤ 6 → (-2147483648 ≤ x3 ∧ x3 ≤ 2147483647) ∧ ((a1 ≤ x3 → Q x2) ∧ (¬ (a1 ≤ x3) → w_Trial_partOf M x3 x1 (fun a6 => X4 (x2 + a6) (x3 + 1))))
set_option maxRecDepth 100000 in
set_option maxHeartbeats 4000000 in
theorem s_Trial_sinkOf_B0 {Q : Int → Prop} {x1 : Int} {M : Mem} {X4 : Int → Int → Prop} {x2 : Int} {x3 : Int} (hC : rC p R s m args meth c cells slots D aC ad 4 cX8_sinkOf RX8 2 47 (some .int)) (hQ : ∀ (pc : Nat) (L : List (Nat × RV)) (z : Int), decode cX8_sinkOf pc = .ok (.ireturn, 1) → Q z → rG p l e R s m args below meth c cells slots Qs D aC ad 4 pc L [vI z] M) (hX4 : ∀ (x2 : Int) (x3 : Int), X4 x2 x3 → rG p l e R s m args below meth c cells slots Qs D aC ad 4 4 [(0, vR 1), (1, vI x1), (2, vI x2), (3, vI x3)] [] M) (hw : w_Trial_sinkOf_B0 Q x1 M X4 x2 x3) : rG p l e R s m args below meth c cells slots Qs D aC ad 4 4 [(0, vR 1), (1, vI x1), (2, vI x2), (3, vI x3)] [] M := by
  unfold w_Trial_sinkOf_B0 at hw
  refine r_iload_n hC dX8_sinkOf_4 rfl rfl ?_
  refine r_aload_n hC dX8_sinkOf_5 rfl rfl ?_
  refine r_getI hC 10 rfl (by decide) kf8_58 rfl rfl dX8_sinkOf_6 (fun b2 b2' => ?_)
  replace hw := hw _ rfl b2 b2'
  obtain ⟨o3, hw⟩ := hw
  obtain ⟨hwt, hwf⟩ := hw
  refine r_icmp_ge hC 27 dX8_sinkOf_9 (by decide) o3.1 o3.2 (by omega) (by omega) (fun c5 => ?_) (fun c5 => ?_)
  · have hw := hwt c5
    refine r_iload_n hC dX8_sinkOf_27 rfl rfl ?_
    exact hQ _ _ _ dX8_sinkOf_28 hw
  · have hw := hwf c5
    refine r_iload_n hC dX8_sinkOf_12 rfl rfl ?_
    refine r_aload_n hC dX8_sinkOf_13 rfl rfl ?_
    refine r_iload_n hC dX8_sinkOf_14 rfl rfl ?_
    refine r_iload_n hC dX8_sinkOf_15 rfl rfl ?_
    refine r_callV hC (d_Trial_partOf hw) rfl kC8_partOf km8_158 kI8_partOf kS8_partOf kN8 dd_8_partOf ⟨Nat.le_of_ble_eq_true rfl, Nat.le_of_ble_eq_true rfl⟩ rfl (Nat.le_of_ble_eq_true rfl) dX8_sinkOf_16 (fun r M' hp => ?_)
    obtain ⟨rfl, a6, rfl, hw⟩ := hp
    try dsimp only at hw
    refine r_iadd hC dX8_sinkOf_19 ?_
    refine r_istore_n hC dX8_sinkOf_20 rfl (by decide) ?_
    refine r_iinc hC dX8_sinkOf_21 rfl (by decide) ?_
    refine r_goto hC 4 dX8_sinkOf_24 (by decide) ?_
    exact r_subk (hX4 _ _ hw) ⟨rfl, rfl, rfl, rfl, trivial⟩
def w_Trial_sinkOf_L0 (Q : Int → Prop) (x1 : Int) (M : Mem) (x2 : Int) (x3 : Int) : Prop :=
  ∀ X : Int → Int → Prop, (∀ (x2 : Int) (x3 : Int), w_Trial_sinkOf_B0 Q x1 M X x2 x3 → X x2 x3) → X x2 x3
set_option maxRecDepth 100000 in
set_option maxHeartbeats 4000000 in
theorem s_Trial_sinkOf_L0 {Q : Int → Prop} {x1 : Int} {M : Mem} {x2 : Int} {x3 : Int} (hC : rC p R s m args meth c cells slots D aC ad 4 cX8_sinkOf RX8 2 47 (some .int)) (hQ : ∀ (pc : Nat) (L : List (Nat × RV)) (z : Int), decode cX8_sinkOf pc = .ok (.ireturn, 1) → Q z → rG p l e R s m args below meth c cells slots Qs D aC ad 4 pc L [vI z] M) (hw : w_Trial_sinkOf_L0 Q x1 M x2 x3) : rG p l e R s m args below meth c cells slots Qs D aC ad 4 4 [(0, vR 1), (1, vI x1), (2, vI x2), (3, vI x3)] [] M := by
  unfold w_Trial_sinkOf_L0 at hw
  exact hw (fun x2 x3 => rG p l e R s m args below meth c cells slots Qs D aC ad 4 4 [(0, vR 1), (1, vI x1), (2, vI x2), (3, vI x3)] [] M) (fun x2 x3 hb => s_Trial_sinkOf_B0 hC hQ (fun _ _ h => h) hb)
def w_Trial_sinkOf (M : Mem) (x1 : Int) (Q : Int → Prop) : Prop :=
  w_Trial_sinkOf_L0 Q x1 M 0 0
set_option maxRecDepth 100000 in
set_option maxHeartbeats 4000000 in
theorem s_Trial_sinkOf {M : Mem} {x1 : Int} {Q : Int → Prop} (hC : rC p R s m args meth c cells slots D aC ad 4 cX8_sinkOf RX8 2 47 (some .int)) (hQ : ∀ (pc : Nat) (L : List (Nat × RV)) (z : Int), decode cX8_sinkOf pc = .ok (.ireturn, 1) → Q z → rG p l e R s m args below meth c cells slots Qs D aC ad 4 pc L [vI z] M) (hw : w_Trial_sinkOf M x1 Q) : rG p l e R s m args below meth c cells slots Qs D aC ad 4 0 [(0, vR 1), (1, vI x1)] [] M := by
  unfold w_Trial_sinkOf at hw
  refine r_iconst hC dX8_sinkOf_0 ?_
  refine r_istore_n hC dX8_sinkOf_1 rfl (by decide) ?_
  refine r_iconst hC dX8_sinkOf_2 ?_
  refine r_istore_n hC dX8_sinkOf_3 rfl (by decide) ?_
  exact r_subk (s_Trial_sinkOf_L0 hC hQ hw) ⟨rfl, rfl, rfl, rfl, trivial⟩
set_option maxRecDepth 100000 in
set_option maxHeartbeats 4000000 in
theorem d_Trial_sinkOf {l : Launch} {D : va_G} {aC : Nat → ClassId} {ad : Nat → Nat} {M : Mem} {x1 : Int} {Q : Int → Prop} (hw : w_Trial_sinkOf M x1 Q) : Does l D aC ad yX8_sinkOf cX8_sinkOf 4 (some .int) 2 47 [vR 1, vI x1] M (qI M Q) :=
  Does.of (by decide) (Nat.le_of_ble_eq_true rfl) (fun p e R s m args below meth c hC => r_subk (s_Trial_sinkOf hC (fun pc L z d h => r_iret hC d ⟨rfl, ⟨z, rfl, h⟩⟩) hw) ⟨rfl, rfl, trivial⟩)
theorem dd_3_mark : yX3_mark.cls ≠ "java/lang/invoke/MethodHandle" ∧ yX3_mark.cls ≠ "java/lang/invoke/VarHandle" ∧ (parseMethodDescriptor yX3_mark.desc).map (fun d => d.parameters.length) = some 0 := by decide +kernel
theorem dd_8_sinkOf : yX8_sinkOf.cls ≠ "java/lang/invoke/MethodHandle" ∧ yX8_sinkOf.cls ≠ "java/lang/invoke/VarHandle" ∧ (parseMethodDescriptor yX8_sinkOf.desc).map (fun d => d.parameters.length) = some 1 := by decide +kernel
/-- SoupSand.surveyHouse -/
def w_S_surveyHouse_j0 (Q : Mem → Prop) (X57 : Int → Mem → Prop) (x1 : Int) (x3 : Int) (x4 : Int) (M : Mem) : Prop :=
  w_Trial_advance M (fun M2 => X57 (x4 + 1) M2)
set_option maxRecDepth 100000 in
set_option maxHeartbeats 4000000 in
theorem s_S_surveyHouse_j0 {Q : Mem → Prop} {X57 : Int → Mem → Prop} {x1 : Int} {x3 : Int} {x4 : Int} {M : Mem} (hC : rC p R s m args meth c cells slots D aC ad 5 cX11_surveyHouse RX11 5 122 none) (hQ : ∀ (pc : Nat) (L : List (Nat × RV)) (M : Mem), decode cX11_surveyHouse pc = .ok (.return_, 1) → Q M → rG p l e R s m args below meth c cells slots Qs D aC ad 5 pc L [] M) (hX57 : ∀ (x4 : Int) (M : Mem), X57 x4 M → rG p l e R s m args below meth c cells slots Qs D aC ad 5 57 [(0, vR 0), (1, vI x1), (3, vI x3), (4, vI x4)] [] M) (hw : w_S_surveyHouse_j0 Q X57 x1 x3 x4 M) : rG p l e R s m args below meth c cells slots Qs D aC ad 5 126 [(0, vR 0), (1, vI x1), (3, vI x3), (4, vI x4)] [] M := by
  unfold w_S_surveyHouse_j0 at hw
  refine r_aload_n hC dX11_surveyHouse_126 rfl rfl ?_
  refine r_getR hC 0 rfl (by decide) kf11_10 rfl rfl dX11_surveyHouse_127 ?_
  refine r_callV hC (d_Trial_advance hw) rfl kC8_advance km11_219 kI8_advance kS8_advance kN8 dd_8_advance ⟨Nat.le_of_ble_eq_true rfl, Nat.le_of_ble_eq_true rfl⟩ rfl (Nat.le_of_ble_eq_true rfl) dX11_surveyHouse_130 (fun r M' hp => ?_)
  obtain ⟨rfl, hw⟩ := hp
  try dsimp only at hw
  refine r_iinc hC dX11_surveyHouse_133 rfl (by decide) ?_
  refine r_goto hC 57 dX11_surveyHouse_136 (by decide) ?_
  exact r_subk (hX57 _ _ hw) ⟨rfl, rfl, rfl, rfl, trivial⟩
def w_S_surveyHouse_B0 (Q : Mem → Prop) (x1 : Int) (x3 : Int) (X57 : Int → Mem → Prop) (x4 : Int) (M : Mem) : Prop :=
  (0 ≤ x3 ∧ x3 < 6) ∧ (∀ a2 : Int, a2 = M 36 x3 → 0 ≤ a2 → a2 ≤ 729 → (-2147483648 ≤ x4 ∧ x4 ≤ 2147483647) ∧ ((a2 ≤ x4 → Q M) ∧ (¬ (a2 ≤ x4) → w_Trial_place M (fun a7 => w_Words_keep M x3 a7 (fun a8 => (-2147483648 ≤ a8 ∧ a8 ≤ 2147483647) ∧ ((a8 = 0 → w_S_surveyHouse_j0 Q X57 x1 x3 x4 M) ∧ (¬ (a8 = 0) → w_Trial_play M (fun M13 => (0 ≤ x1 ∧ x1 < 8) ∧ (∀ a15 : Int, a15 = M13 39 x1 → 0 ≤ a15 → a15 ≤ 60 → w_Trial_sinkOf M13 a15 (fun a17 => w_Trial_weightNow M13 (fun a18 => w_Survey_add M13 a17 a18 (fun M20 => w_S_surveyHouse_j0 Q X57 x1 x3 x4 M20))))))))))))
set_option maxRecDepth 100000 in
set_option maxHeartbeats 4000000 in
theorem s_S_surveyHouse_B0 {Q : Mem → Prop} {x1 : Int} {x3 : Int} {X57 : Int → Mem → Prop} {x4 : Int} {M : Mem} (hC : rC p R s m args meth c cells slots D aC ad 5 cX11_surveyHouse RX11 5 122 none) (hQ : ∀ (pc : Nat) (L : List (Nat × RV)) (M : Mem), decode cX11_surveyHouse pc = .ok (.return_, 1) → Q M → rG p l e R s m args below meth c cells slots Qs D aC ad 5 pc L [] M) (hX57 : ∀ (x4 : Int) (M : Mem), X57 x4 M → rG p l e R s m args below meth c cells slots Qs D aC ad 5 57 [(0, vR 0), (1, vI x1), (3, vI x3), (4, vI x4)] [] M) (hw : w_S_surveyHouse_B0 Q x1 x3 X57 x4 M) : rG p l e R s m args below meth c cells slots Qs D aC ad 5 57 [(0, vR 0), (1, vI x1), (3, vI x3), (4, vI x4)] [] M := by
  unfold w_S_surveyHouse_B0 at hw
  refine r_iload hC dX11_surveyHouse_57 rfl ?_
  refine r_aload_n hC dX11_surveyHouse_59 rfl rfl ?_
  refine r_getR hC 4 rfl (by decide) kf11_34 rfl rfl dX11_surveyHouse_60 ?_
  refine r_getR hC 7 rfl (by decide) kf11_206 rfl rfl dX11_surveyHouse_63 ?_
  refine r_iload_n hC dX11_surveyHouse_66 rfl rfl ?_
  obtain ⟨o1, hw⟩ := hw
  refine r_iald hC rfl o1.1 o1.2 (by decide) (by decide) dX11_surveyHouse_67 (fun b3 b3' => ?_)
  replace hw := hw _ rfl b3 b3'
  obtain ⟨o4, hw⟩ := hw
  obtain ⟨hwt, hwf⟩ := hw
  refine r_icmp_ge hC 139 dX11_surveyHouse_68 (by decide) o4.1 o4.2 (by omega) (by omega) (fun c6 => ?_) (fun c6 => ?_)
  · have hw := hwt c6
    exact hQ _ _ _ dX11_surveyHouse_139 hw
  · have hw := hwf c6
    refine r_aload_n hC dX11_surveyHouse_71 rfl rfl ?_
    refine r_getR hC 4 rfl (by decide) kf11_34 rfl rfl dX11_surveyHouse_72 ?_
    refine r_iload_n hC dX11_surveyHouse_75 rfl rfl ?_
    refine r_aload_n hC dX11_surveyHouse_76 rfl rfl ?_
    refine r_getR hC 0 rfl (by decide) kf11_10 rfl rfl dX11_surveyHouse_77 ?_
    refine r_callV hC (d_Trial_place hw) rfl kC8_place km11_212 kI8_place kS8_place kN8 dd_8_place ⟨Nat.le_of_ble_eq_true rfl, Nat.le_of_ble_eq_true rfl⟩ rfl (Nat.le_of_ble_eq_true rfl) dX11_surveyHouse_80 (fun r M' hp => ?_)
    obtain ⟨rfl, a7, rfl, hw⟩ := hp
    try dsimp only at hw
    refine r_callV hC (d_Words_keep hw) rfl kC9_keep km11_216 kI9_keep kS9_keep kN9 dd_9_keep ⟨Nat.le_of_ble_eq_true rfl, Nat.le_of_ble_eq_true rfl⟩ rfl (Nat.le_of_ble_eq_true rfl) dX11_surveyHouse_83 (fun r M' hp => ?_)
    obtain ⟨rfl, a8, rfl, hw⟩ := hp
    try dsimp only at hw
    obtain ⟨o9, hw⟩ := hw
    obtain ⟨hwt, hwf⟩ := hw
    refine r_if_eq hC 126 dX11_surveyHouse_86 (by decide) o9.1 o9.2 (fun c11 => ?_) (fun c11 => ?_)
    · have hw := hwt c11
      exact r_subk (s_S_surveyHouse_j0 hC hQ hX57 hw) ⟨rfl, rfl, rfl, rfl, trivial⟩
    · have hw := hwf c11
      refine r_aload_n hC dX11_surveyHouse_89 rfl rfl ?_
      refine r_getR hC 0 rfl (by decide) kf11_10 rfl rfl dX11_surveyHouse_90 ?_
      refine r_callV hC (d_Trial_play hw) rfl kC8_play km11_252 kI8_play kS8_play kN8 dd_8_play ⟨Nat.le_of_ble_eq_true rfl, Nat.le_of_ble_eq_true rfl⟩ rfl (Nat.le_of_ble_eq_true rfl) dX11_surveyHouse_93 (fun r M' hp => ?_)
      obtain ⟨rfl, hw⟩ := hp
      try dsimp only at hw
      refine r_aload_n hC dX11_surveyHouse_96 rfl rfl ?_
      refine r_getR hC 8 rfl (by decide) kf11_62 rfl rfl dX11_surveyHouse_97 ?_
      refine r_aload_n hC dX11_surveyHouse_100 rfl rfl ?_
      refine r_getR hC 0 rfl (by decide) kf11_10 rfl rfl dX11_surveyHouse_101 ?_
      refine r_aload_n hC dX11_surveyHouse_104 rfl rfl ?_
      refine r_getR hC 5 rfl (by decide) kf11_41 rfl rfl dX11_surveyHouse_105 ?_
      refine r_getR hC 1 rfl (by decide) kf11_297 rfl rfl dX11_surveyHouse_108 ?_
      refine r_iload_n hC dX11_surveyHouse_111 rfl rfl ?_
      obtain ⟨o14, hw⟩ := hw
      refine r_iald hC rfl o14.1 o14.2 (by decide) (by decide) dX11_surveyHouse_112 (fun b16 b16' => ?_)
      replace hw := hw _ rfl b16 b16'
      refine r_callV hC (d_Trial_sinkOf hw) rfl kC8_sinkOf km11_309 kI8_sinkOf kS8_sinkOf kN8 dd_8_sinkOf ⟨Nat.le_of_ble_eq_true rfl, Nat.le_of_ble_eq_true rfl⟩ rfl (Nat.le_of_ble_eq_true rfl) dX11_surveyHouse_113 (fun r M' hp => ?_)
      obtain ⟨rfl, a17, rfl, hw⟩ := hp
      try dsimp only at hw
      refine r_aload_n hC dX11_surveyHouse_116 rfl rfl ?_
      refine r_getR hC 0 rfl (by decide) kf11_10 rfl rfl dX11_surveyHouse_117 ?_
      refine r_callV hC (d_Trial_weightNow hw) rfl kC8_weightNow km11_255 kI8_weightNow kS8_weightNow kN8 dd_8_weightNow ⟨Nat.le_of_ble_eq_true rfl, Nat.le_of_ble_eq_true rfl⟩ rfl (Nat.le_of_ble_eq_true rfl) dX11_surveyHouse_120 (fun r M' hp => ?_)
      obtain ⟨rfl, a18, rfl, hw⟩ := hp
      try dsimp only at hw
      refine r_callV hC (d_Survey_add hw) rfl kC6_add km11_258 kI6_add kS6_add kN6 dd_6_add ⟨Nat.le_of_ble_eq_true rfl, Nat.le_of_ble_eq_true rfl⟩ rfl (Nat.le_of_ble_eq_true rfl) dX11_surveyHouse_123 (fun r M' hp => ?_)
      obtain ⟨rfl, hw⟩ := hp
      try dsimp only at hw
      exact r_subk (s_S_surveyHouse_j0 hC hQ hX57 hw) ⟨rfl, rfl, rfl, rfl, trivial⟩
def w_S_surveyHouse_L0 (Q : Mem → Prop) (x1 : Int) (x3 : Int) (x4 : Int) (M : Mem) : Prop :=
  ∀ X : Int → Mem → Prop, (∀ (x4 : Int) (M : Mem), w_S_surveyHouse_B0 Q x1 x3 X x4 M → X x4 M) → X x4 M
set_option maxRecDepth 100000 in
set_option maxHeartbeats 4000000 in
theorem s_S_surveyHouse_L0 {Q : Mem → Prop} {x1 : Int} {x3 : Int} {x4 : Int} {M : Mem} (hC : rC p R s m args meth c cells slots D aC ad 5 cX11_surveyHouse RX11 5 122 none) (hQ : ∀ (pc : Nat) (L : List (Nat × RV)) (M : Mem), decode cX11_surveyHouse pc = .ok (.return_, 1) → Q M → rG p l e R s m args below meth c cells slots Qs D aC ad 5 pc L [] M) (hw : w_S_surveyHouse_L0 Q x1 x3 x4 M) : rG p l e R s m args below meth c cells slots Qs D aC ad 5 57 [(0, vR 0), (1, vI x1), (3, vI x3), (4, vI x4)] [] M := by
  unfold w_S_surveyHouse_L0 at hw
  exact hw (fun x4 M => rG p l e R s m args below meth c cells slots Qs D aC ad 5 57 [(0, vR 0), (1, vI x1), (3, vI x3), (4, vI x4)] [] M) (fun x4 M hb => s_S_surveyHouse_B0 hC hQ (fun _ _ h => h) hb)
def w_S_surveyHouse (M : Mem) (x1 : Int) (x2 : Int) (Q : Mem → Prop) : Prop :=
  (0 ≤ x1 ∧ x1 < 8) ∧ (∀ a2 : Int, a2 = M 38 x1 → 0 ≤ a2 → a2 ≤ 5 → w_Words_look M a2 (fun M5 => w_Rules_mark M5 (fun a6 => w_Survey_begin M5 a6 (fun M8 => w_Trial_begin M8 a2 (fun M10 => w_Trial_under M10 x2 0 0 (fun M12 => w_S_surveyHouse_L0 Q x1 a2 0 M12))))))
set_option maxRecDepth 100000 in
set_option maxHeartbeats 4000000 in
theorem s_S_surveyHouse {M : Mem} {x1 : Int} {x2 : Int} {Q : Mem → Prop} (hC : rC p R s m args meth c cells slots D aC ad 5 cX11_surveyHouse RX11 5 122 none) (hQ : ∀ (pc : Nat) (L : List (Nat × RV)) (M : Mem), decode cX11_surveyHouse pc = .ok (.return_, 1) → Q M → rG p l e R s m args below meth c cells slots Qs D aC ad 5 pc L [] M) (hw : w_S_surveyHouse M x1 x2 Q) : rG p l e R s m args below meth c cells slots Qs D aC ad 5 0 [(0, vR 0), (1, vI x1), (2, vI x2)] [] M := by
  unfold w_S_surveyHouse at hw
  refine r_aload_n hC dX11_surveyHouse_0 rfl rfl ?_
  refine r_getR hC 5 rfl (by decide) kf11_41 rfl rfl dX11_surveyHouse_1 ?_
  refine r_getR hC 0 rfl (by decide) kf11_308 rfl rfl dX11_surveyHouse_4 ?_
  refine r_iload_n hC dX11_surveyHouse_7 rfl rfl ?_
  obtain ⟨o1, hw⟩ := hw
  refine r_iald hC rfl o1.1 o1.2 (by decide) (by decide) dX11_surveyHouse_8 (fun b3 b3' => ?_)
  replace hw := hw _ rfl b3 b3'
  refine r_istore_n hC dX11_surveyHouse_9 rfl (by decide) ?_
  refine r_aload_n hC dX11_surveyHouse_10 rfl rfl ?_
  refine r_getR hC 4 rfl (by decide) kf11_34 rfl rfl dX11_surveyHouse_11 ?_
  refine r_aload_n hC dX11_surveyHouse_14 rfl rfl ?_
  refine r_getR hC 0 rfl (by decide) kf11_10 rfl rfl dX11_surveyHouse_15 ?_
  refine r_iload_n hC dX11_surveyHouse_18 rfl rfl ?_
  refine r_callV hC (d_Words_look hw) rfl kC9_look km11_188 kI9_look kS9_look kN9 dd_9_look ⟨Nat.le_of_ble_eq_true rfl, Nat.le_of_ble_eq_true rfl⟩ rfl (Nat.le_of_ble_eq_true rfl) dX11_surveyHouse_19 (fun r M' hp => ?_)
  obtain ⟨rfl, hw⟩ := hp
  try dsimp only at hw
  refine r_aload_n hC dX11_surveyHouse_22 rfl rfl ?_
  refine r_getR hC 8 rfl (by decide) kf11_62 rfl rfl dX11_surveyHouse_23 ?_
  refine r_aload_n hC dX11_surveyHouse_26 rfl rfl ?_
  refine r_getR hC 3 rfl (by decide) kf11_30 rfl rfl dX11_surveyHouse_27 ?_
  refine r_callV hC (d_Rules_mark hw) rfl kC3_mark km11_292 kI3_mark kS3_mark kN3 dd_3_mark ⟨Nat.le_of_ble_eq_true rfl, Nat.le_of_ble_eq_true rfl⟩ rfl (Nat.le_of_ble_eq_true rfl) dX11_surveyHouse_30 (fun r M' hp => ?_)
  obtain ⟨rfl, a6, rfl, hw⟩ := hp
  try dsimp only at hw
  refine r_callV hC (d_Survey_begin hw) rfl kC6_begin km11_248 kI6_begin kS6_begin kN6 dd_6_begin ⟨Nat.le_of_ble_eq_true rfl, Nat.le_of_ble_eq_true rfl⟩ rfl (Nat.le_of_ble_eq_true rfl) dX11_surveyHouse_33 (fun r M' hp => ?_)
  obtain ⟨rfl, hw⟩ := hp
  try dsimp only at hw
  refine r_aload_n hC dX11_surveyHouse_36 rfl rfl ?_
  refine r_getR hC 0 rfl (by decide) kf11_10 rfl rfl dX11_surveyHouse_37 ?_
  refine r_iload_n hC dX11_surveyHouse_40 rfl rfl ?_
  refine r_callV hC (d_Trial_begin hw) rfl kC8_begin km11_202 kI8_begin kS8_begin kN8 dd_8_begin ⟨Nat.le_of_ble_eq_true rfl, Nat.le_of_ble_eq_true rfl⟩ rfl (Nat.le_of_ble_eq_true rfl) dX11_surveyHouse_41 (fun r M' hp => ?_)
  obtain ⟨rfl, hw⟩ := hp
  try dsimp only at hw
  refine r_aload_n hC dX11_surveyHouse_44 rfl rfl ?_
  refine r_getR hC 0 rfl (by decide) kf11_10 rfl rfl dX11_surveyHouse_45 ?_
  refine r_iload_n hC dX11_surveyHouse_48 rfl rfl ?_
  refine r_iconst hC dX11_surveyHouse_49 ?_
  refine r_iconst hC dX11_surveyHouse_50 ?_
  refine r_callV hC (d_Trial_under hw) rfl kC8_under km11_249 kI8_under kS8_under kN8 dd_8_under ⟨Nat.le_of_ble_eq_true rfl, Nat.le_of_ble_eq_true rfl⟩ rfl (Nat.le_of_ble_eq_true rfl) dX11_surveyHouse_51 (fun r M' hp => ?_)
  obtain ⟨rfl, hw⟩ := hp
  try dsimp only at hw
  refine r_iconst hC dX11_surveyHouse_54 ?_
  refine r_istore hC dX11_surveyHouse_55 (by decide) ?_
  exact r_subk (s_S_surveyHouse_L0 hC hQ hw) ⟨rfl, rfl, rfl, rfl, trivial⟩
set_option maxRecDepth 100000 in
set_option maxHeartbeats 4000000 in
theorem d_S_surveyHouse {l : Launch} {D : va_G} {aC : Nat → ClassId} {ad : Nat → Nat} {M : Mem} {x1 : Int} {x2 : Int} {Q : Mem → Prop} (hw : w_S_surveyHouse M x1 x2 Q) : Does l D aC ad yX11_surveyHouse cX11_surveyHouse 5 none 5 122 [vR 0, vI x1, vI x2] M (pV Q) :=
  Does.of (by decide) (Nat.le_of_ble_eq_true rfl) (fun p e R s m args below meth c hC => r_subk (s_S_surveyHouse hC (fun pc L M d h => r_vret hC d ⟨rfl, h⟩) hw) ⟨rfl, rfl, rfl, trivial⟩)
/-- SoupSand.firstSink -/
def w_S_firstSink (M : Mem) (x1 : Int) (x2 : Int) (Q : Int → Mem → Prop) : Prop :=
  (0 ≤ x1 ∧ x1 < 8) ∧ (∀ a2 : Int, a2 = M 38 x1 → 0 ≤ a2 → a2 ≤ 5 → w_Trial_runFirst M a2 x2 (fun M5 => (0 ≤ x1 ∧ x1 < 8) ∧ (∀ a7 : Int, a7 = M5 39 x1 → 0 ≤ a7 → a7 ≤ 60 → w_Trial_sinkOf M5 a7 (fun a9 => Q a9 M5))))
set_option maxRecDepth 100000 in
set_option maxHeartbeats 4000000 in
theorem s_S_firstSink {M : Mem} {x1 : Int} {x2 : Int} {Q : Int → Mem → Prop} (hC : rC p R s m args meth c cells slots D aC ad 3 cX11_firstSink RX11 4 95 (some .int)) (hQ : ∀ (pc : Nat) (L : List (Nat × RV)) (z : Int) (M : Mem), decode cX11_firstSink pc = .ok (.ireturn, 1) → Q z M → rG p l e R s m args below meth c cells slots Qs D aC ad 3 pc L [vI z] M) (hw : w_S_firstSink M x1 x2 Q) : rG p l e R s m args below meth c cells slots Qs D aC ad 3 0 [(0, vR 0), (1, vI x1), (2, vI x2)] [] M := by
  unfold w_S_firstSink at hw
  refine r_aload_n hC dX11_firstSink_0 rfl rfl ?_
  refine r_getR hC 0 rfl (by decide) kf11_10 rfl rfl dX11_firstSink_1 ?_
  refine r_aload_n hC dX11_firstSink_4 rfl rfl ?_
  refine r_getR hC 5 rfl (by decide) kf11_41 rfl rfl dX11_firstSink_5 ?_
  refine r_getR hC 0 rfl (by decide) kf11_308 rfl rfl dX11_firstSink_8 ?_
  refine r_iload_n hC dX11_firstSink_11 rfl rfl ?_
  obtain ⟨o1, hw⟩ := hw
  refine r_iald hC rfl o1.1 o1.2 (by decide) (by decide) dX11_firstSink_12 (fun b3 b3' => ?_)
  replace hw := hw _ rfl b3 b3'
  refine r_iload_n hC dX11_firstSink_13 rfl rfl ?_
  refine r_callV hC (d_Trial_runFirst hw) rfl kC8_runFirst km11_175 kI8_runFirst kS8_runFirst kN8 dd_8_runFirst ⟨Nat.le_of_ble_eq_true rfl, Nat.le_of_ble_eq_true rfl⟩ rfl (Nat.le_of_ble_eq_true rfl) dX11_firstSink_14 (fun r M' hp => ?_)
  obtain ⟨rfl, hw⟩ := hp
  try dsimp only at hw
  refine r_aload_n hC dX11_firstSink_17 rfl rfl ?_
  refine r_getR hC 0 rfl (by decide) kf11_10 rfl rfl dX11_firstSink_18 ?_
  refine r_aload_n hC dX11_firstSink_21 rfl rfl ?_
  refine r_getR hC 5 rfl (by decide) kf11_41 rfl rfl dX11_firstSink_22 ?_
  refine r_getR hC 1 rfl (by decide) kf11_297 rfl rfl dX11_firstSink_25 ?_
  refine r_iload_n hC dX11_firstSink_28 rfl rfl ?_
  obtain ⟨o6, hw⟩ := hw
  refine r_iald hC rfl o6.1 o6.2 (by decide) (by decide) dX11_firstSink_29 (fun b8 b8' => ?_)
  replace hw := hw _ rfl b8 b8'
  refine r_callV hC (d_Trial_sinkOf hw) rfl kC8_sinkOf km11_309 kI8_sinkOf kS8_sinkOf kN8 dd_8_sinkOf ⟨Nat.le_of_ble_eq_true rfl, Nat.le_of_ble_eq_true rfl⟩ rfl (Nat.le_of_ble_eq_true rfl) dX11_firstSink_30 (fun r M' hp => ?_)
  obtain ⟨rfl, a9, rfl, hw⟩ := hp
  try dsimp only at hw
  exact hQ _ _ _ _ dX11_firstSink_33 hw
set_option maxRecDepth 100000 in
set_option maxHeartbeats 4000000 in
theorem d_S_firstSink {l : Launch} {D : va_G} {aC : Nat → ClassId} {ad : Nat → Nat} {M : Mem} {x1 : Int} {x2 : Int} {Q : Int → Mem → Prop} (hw : w_S_firstSink M x1 x2 Q) : Does l D aC ad yX11_firstSink cX11_firstSink 3 (some .int) 4 95 [vR 0, vI x1, vI x2] M (pI Q) :=
  Does.of (by decide) (Nat.le_of_ble_eq_true rfl) (fun p e R s m args below meth c hC => r_subk (s_S_firstSink hC (fun pc L z M d h => r_iret hC d ⟨z, rfl, h⟩) hw) ⟨rfl, rfl, rfl, trivial⟩)
theorem dd_1_hasHouse : yX1_hasHouse.cls ≠ "java/lang/invoke/MethodHandle" ∧ yX1_hasHouse.cls ≠ "java/lang/invoke/VarHandle" ∧ (parseMethodDescriptor yX1_hasHouse.desc).map (fun d => d.parameters.length) = some 1 := by decide +kernel
theorem dd_11_firstSink : yX11_firstSink.cls ≠ "java/lang/invoke/MethodHandle" ∧ yX11_firstSink.cls ≠ "java/lang/invoke/VarHandle" ∧ (parseMethodDescriptor yX11_firstSink.desc).map (fun d => d.parameters.length) = some 2 := by decide +kernel
theorem dd_11_surveyHouse : yX11_surveyHouse.cls ≠ "java/lang/invoke/MethodHandle" ∧ yX11_surveyHouse.cls ≠ "java/lang/invoke/VarHandle" ∧ (parseMethodDescriptor yX11_surveyHouse.desc).map (fun d => d.parameters.length) = some 2 := by decide +kernel
/-- SoupSand.sink -/
def w_S_sink (M : Mem) (x1 : Int) (x2 : Int) (x3 : Int) (Q : Int → Mem → Prop) : Prop :=
  w_Houses_hasHouse M x1 (fun a1 => (-2147483648 ≤ a1 ∧ a1 ≤ 2147483647) ∧ ((a1 = 0 → Q (-1001) M) ∧ (¬ (a1 = 0) → w_Shakes_hasShake M x2 (fun a5 => (-2147483648 ≤ a5 ∧ a5 ≤ 2147483647) ∧ ((¬ (a5 = 0) → w_S_beyond M x3 0 2 (fun a9 => (-2147483648 ≤ a9 ∧ a9 ≤ 2147483647) ∧ ((a9 = 0 → (-2147483648 ≤ x3 ∧ x3 ≤ 2147483647) ∧ ((¬ (x3 = 2) → w_S_surveyHouse M x1 x2 (fun M17 => ∀ a18 : Int, a18 = M17 9 0 → 0 ≤ a18 → a18 ≤ 729 → (¬ (a18 = 0) → (-2147483648 ≤ x3 ∧ x3 ≤ 2147483647) ∧ ((¬ (x3 = 0) → ∀ a26 : Int, a26 = M17 9 5 → -2147483648 ≤ a26 → a26 ≤ 2147483647 → Q a26 M17) ∧ (x3 = 0 → ∀ a28 : Int, a28 = M17 9 4 → -2147483648 ≤ a28 → a28 ≤ 2147483647 → Q a28 M17))) ∧ (a18 = 0 → Q (-1005) M17))) ∧ (x3 = 2 → w_S_firstSink M x1 x2 (fun a30 M31 => Q a30 M31)))) ∧ (¬ (a9 = 0) → Q (-1002) M)))) ∧ (a5 = 0 → Q (-1001) M))))))
set_option maxRecDepth 100000 in
set_option maxHeartbeats 4000000 in
theorem s_S_sink {M : Mem} {x1 : Int} {x2 : Int} {x3 : Int} {Q : Int → Mem → Prop} (hC : rC p R s m args meth c cells slots D aC ad 4 cX11_sink RX11 6 146 (some .int)) (hQ : ∀ (pc : Nat) (L : List (Nat × RV)) (z : Int) (M : Mem), decode cX11_sink pc = .ok (.ireturn, 1) → Q z M → rG p l e R s m args below meth c cells slots Qs D aC ad 4 pc L [vI z] M) (hw : w_S_sink M x1 x2 x3 Q) : rG p l e R s m args below meth c cells slots Qs D aC ad 4 0 [(0, vR 0), (1, vI x1), (2, vI x2), (3, vI x3)] [] M := by
  unfold w_S_sink at hw
  refine r_aload_n hC dX11_sink_0 rfl rfl ?_
  refine r_getR hC 5 rfl (by decide) kf11_41 rfl rfl dX11_sink_1 ?_
  refine r_iload_n hC dX11_sink_4 rfl rfl ?_
  refine r_callV hC (d_Houses_hasHouse hw) rfl kC1_hasHouse km11_280 kI1_hasHouse kS1_hasHouse kN1 dd_1_hasHouse ⟨Nat.le_of_ble_eq_true rfl, Nat.le_of_ble_eq_true rfl⟩ rfl (Nat.le_of_ble_eq_true rfl) dX11_sink_5 (fun r M' hp => ?_)
  obtain ⟨rfl, a1, rfl, hw⟩ := hp
  try dsimp only at hw
  obtain ⟨o2, hw⟩ := hw
  obtain ⟨hwt, hwf⟩ := hw
  refine r_if_eq hC 22 dX11_sink_8 (by decide) o2.1 o2.2 (fun c4 => ?_) (fun c4 => ?_)
  · have hw := hwt c4
    refine r_sipush hC dX11_sink_22 (by decide) ?_
    exact hQ _ _ _ _ dX11_sink_25 hw
  · have hw := hwf c4
    refine r_aload_n hC dX11_sink_11 rfl rfl ?_
    refine r_getR hC 2 rfl (by decide) kf11_25 rfl rfl dX11_sink_12 ?_
    refine r_iload_n hC dX11_sink_15 rfl rfl ?_
    refine r_callV hC (d_Shakes_hasShake hw) rfl kC4_hasShake km11_147 kI4_hasShake kS4_hasShake kN4 dd_4_hasShake ⟨Nat.le_of_ble_eq_true rfl, Nat.le_of_ble_eq_true rfl⟩ rfl (Nat.le_of_ble_eq_true rfl) dX11_sink_16 (fun r M' hp => ?_)
    obtain ⟨rfl, a5, rfl, hw⟩ := hp
    try dsimp only at hw
    obtain ⟨o6, hw⟩ := hw
    obtain ⟨hwt, hwf⟩ := hw
    refine r_if_ne hC 26 dX11_sink_19 (by decide) o6.1 o6.2 (fun c8 => ?_) (fun c8 => ?_)
    · have hw := hwt c8
      refine r_iload_n hC dX11_sink_26 rfl rfl ?_
      refine r_iconst hC dX11_sink_27 ?_
      refine r_iconst hC dX11_sink_28 ?_
      refine r_callS hC (d_S_beyond hw) kC11_beyond km11_86 kT11_beyond kN11 dd_11_beyond ⟨Nat.le_of_ble_eq_true rfl, Nat.le_of_ble_eq_true rfl⟩ rfl (Nat.le_of_ble_eq_true rfl) dX11_sink_29 (fun r M' hp => ?_)
      obtain ⟨rfl, a9, rfl, hw⟩ := hp
      try dsimp only at hw
      obtain ⟨o10, hw⟩ := hw
      obtain ⟨hwt, hwf⟩ := hw
      refine r_if_eq hC 39 dX11_sink_32 (by decide) o10.1 o10.2 (fun c12 => ?_) (fun c12 => ?_)
      · have hw := hwt c12
        refine r_iload_n hC dX11_sink_39 rfl rfl ?_
        refine r_iconst hC dX11_sink_40 ?_
        obtain ⟨o13, hw⟩ := hw
        obtain ⟨hwt, hwf⟩ := hw
        refine r_icmp_ne hC 51 dX11_sink_41 (by decide) o13.1 o13.2 (by decide) (by decide) (fun c15 => ?_) (fun c15 => ?_)
        · have hw := hwt c15
          refine r_aload_n hC dX11_sink_51 rfl rfl ?_
          refine r_iload_n hC dX11_sink_52 rfl rfl ?_
          refine r_iload_n hC dX11_sink_53 rfl rfl ?_
          refine r_callV hC (d_S_surveyHouse hw) rfl kC11_surveyHouse km11_286 kI11_surveyHouse kS11_surveyHouse kN11 dd_11_surveyHouse ⟨Nat.le_of_ble_eq_true rfl, Nat.le_of_ble_eq_true rfl⟩ rfl (Nat.le_of_ble_eq_true rfl) dX11_sink_54 (fun r M' hp => ?_)
          obtain ⟨rfl, hw⟩ := hp
          try dsimp only at hw
          refine r_aload_n hC dX11_sink_57 rfl rfl ?_
          refine r_getR hC 8 rfl (by decide) kf11_62 rfl rfl dX11_sink_58 ?_
          refine r_getI hC 0 rfl (by decide) kf11_230 rfl rfl dX11_sink_61 (fun b19 b19' => ?_)
          replace hw := hw _ rfl b19 b19'
          obtain ⟨hwt, hwf⟩ := hw
          refine r_if_ne hC 71 dX11_sink_64 (by decide) (by omega) (by omega) (fun c22 => ?_) (fun c22 => ?_)
          · have hw := hwt c22
            refine r_iload_n hC dX11_sink_71 rfl rfl ?_
            obtain ⟨o23, hw⟩ := hw
            obtain ⟨hwt, hwf⟩ := hw
            refine r_if_ne hC 85 dX11_sink_72 (by decide) o23.1 o23.2 (fun c25 => ?_) (fun c25 => ?_)
            · have hw := hwt c25
              refine r_aload_n hC dX11_sink_85 rfl rfl ?_
              refine r_getR hC 8 rfl (by decide) kf11_62 rfl rfl dX11_sink_86 ?_
              refine r_getI hC 5 rfl (by decide) kf11_245 rfl rfl dX11_sink_89 (fun b27 b27' => ?_)
              replace hw := hw _ rfl b27 b27'
              exact hQ _ _ _ _ dX11_sink_92 hw
            · have hw := hwf c25
              refine r_aload_n hC dX11_sink_75 rfl rfl ?_
              refine r_getR hC 8 rfl (by decide) kf11_62 rfl rfl dX11_sink_76 ?_
              refine r_getI hC 4 rfl (by decide) kf11_289 rfl rfl dX11_sink_79 (fun b29 b29' => ?_)
              replace hw := hw _ rfl b29 b29'
              refine r_goto hC 92 dX11_sink_82 (by decide) ?_
              exact hQ _ _ _ _ dX11_sink_92 hw
          · have hw := hwf c22
            refine r_sipush hC dX11_sink_67 (by decide) ?_
            exact hQ _ _ _ _ dX11_sink_70 hw
        · have hw := hwf c15
          refine r_aload_n hC dX11_sink_44 rfl rfl ?_
          refine r_iload_n hC dX11_sink_45 rfl rfl ?_
          refine r_iload_n hC dX11_sink_46 rfl rfl ?_
          refine r_callV hC (d_S_firstSink hw) rfl kC11_firstSink km11_283 kI11_firstSink kS11_firstSink kN11 dd_11_firstSink ⟨Nat.le_of_ble_eq_true rfl, Nat.le_of_ble_eq_true rfl⟩ rfl (Nat.le_of_ble_eq_true rfl) dX11_sink_47 (fun r M' hp => ?_)
          obtain ⟨a30, rfl, hw⟩ := hp
          try dsimp only at hw
          exact hQ _ _ _ _ dX11_sink_50 hw
      · have hw := hwf c12
        refine r_sipush hC dX11_sink_35 (by decide) ?_
        exact hQ _ _ _ _ dX11_sink_38 hw
    · have hw := hwf c8
      refine r_sipush hC dX11_sink_22 (by decide) ?_
      exact hQ _ _ _ _ dX11_sink_25 hw
set_option maxRecDepth 100000 in
set_option maxHeartbeats 4000000 in
theorem d_S_sink {l : Launch} {D : va_G} {aC : Nat → ClassId} {ad : Nat → Nat} {M : Mem} {x1 : Int} {x2 : Int} {x3 : Int} {Q : Int → Mem → Prop} (hw : w_S_sink M x1 x2 x3 Q) : Does l D aC ad yX11_sink cX11_sink 4 (some .int) 6 146 [vR 0, vI x1, vI x2, vI x3] M (pI Q) :=
  Does.of (by decide) (Nat.le_of_ble_eq_true rfl) (fun p e R s m args below meth c hC => r_subk (s_S_sink hC (fun pc L z M d h => r_iret hC d ⟨z, rfl, h⟩) hw) ⟨rfl, rfl, rfl, rfl, trivial⟩)
/-- SoupSand.sunk -/
def w_S_sunk (M : Mem) (x1 : Int) (x2 : Int) (x3 : Int) (Q : Int → Mem → Prop) : Prop :=
  w_Houses_hasHouse M x1 (fun a1 => (-2147483648 ≤ a1 ∧ a1 ≤ 2147483647) ∧ ((a1 = 0 → Q (-1001) M) ∧ (¬ (a1 = 0) → w_Shakes_hasShake M x2 (fun a5 => (-2147483648 ≤ a5 ∧ a5 ≤ 2147483647) ∧ ((¬ (a5 = 0) → w_S_beyond M x3 0 1 (fun a9 => (-2147483648 ≤ a9 ∧ a9 ≤ 2147483647) ∧ ((a9 = 0 → w_S_surveyHouse M x1 x2 (fun M14 => ∀ a15 : Int, a15 = M14 9 0 → 0 ≤ a15 → a15 ≤ 729 → (¬ (a15 = 0) → w_Survey_fraction M14 x3 (fun a20 => Q a20 M14)) ∧ (a15 = 0 → Q (-1005) M14))) ∧ (¬ (a9 = 0) → Q (-1002) M)))) ∧ (a5 = 0 → Q (-1001) M))))))
set_option maxRecDepth 100000 in
set_option maxHeartbeats 4000000 in
theorem s_S_sunk {M : Mem} {x1 : Int} {x2 : Int} {x3 : Int} {Q : Int → Mem → Prop} (hC : rC p R s m args meth c cells slots D aC ad 4 cX11_sunk RX11 6 146 (some .long)) (hQ : ∀ (pc : Nat) (L : List (Nat × RV)) (z : Int) (M : Mem), decode cX11_sunk pc = .ok (.lreturn, 1) → Q z M → rG p l e R s m args below meth c cells slots Qs D aC ad 4 pc L [vJ z] M) (hw : w_S_sunk M x1 x2 x3 Q) : rG p l e R s m args below meth c cells slots Qs D aC ad 4 0 [(0, vR 0), (1, vI x1), (2, vI x2), (3, vI x3)] [] M := by
  unfold w_S_sunk at hw
  refine r_aload_n hC dX11_sunk_0 rfl rfl ?_
  refine r_getR hC 5 rfl (by decide) kf11_41 rfl rfl dX11_sunk_1 ?_
  refine r_iload_n hC dX11_sunk_4 rfl rfl ?_
  refine r_callV hC (d_Houses_hasHouse hw) rfl kC1_hasHouse km11_280 kI1_hasHouse kS1_hasHouse kN1 dd_1_hasHouse ⟨Nat.le_of_ble_eq_true rfl, Nat.le_of_ble_eq_true rfl⟩ rfl (Nat.le_of_ble_eq_true rfl) dX11_sunk_5 (fun r M' hp => ?_)
  obtain ⟨rfl, a1, rfl, hw⟩ := hp
  try dsimp only at hw
  obtain ⟨o2, hw⟩ := hw
  obtain ⟨hwt, hwf⟩ := hw
  refine r_if_eq hC 22 dX11_sunk_8 (by decide) o2.1 o2.2 (fun c4 => ?_) (fun c4 => ?_)
  · have hw := hwt c4
    refine r_ldc2 hC (-1001) dX11_sunk_22 kL11_222 (by decide) ?_
    exact hQ _ _ _ _ dX11_sunk_25 hw
  · have hw := hwf c4
    refine r_aload_n hC dX11_sunk_11 rfl rfl ?_
    refine r_getR hC 2 rfl (by decide) kf11_25 rfl rfl dX11_sunk_12 ?_
    refine r_iload_n hC dX11_sunk_15 rfl rfl ?_
    refine r_callV hC (d_Shakes_hasShake hw) rfl kC4_hasShake km11_147 kI4_hasShake kS4_hasShake kN4 dd_4_hasShake ⟨Nat.le_of_ble_eq_true rfl, Nat.le_of_ble_eq_true rfl⟩ rfl (Nat.le_of_ble_eq_true rfl) dX11_sunk_16 (fun r M' hp => ?_)
    obtain ⟨rfl, a5, rfl, hw⟩ := hp
    try dsimp only at hw
    obtain ⟨o6, hw⟩ := hw
    obtain ⟨hwt, hwf⟩ := hw
    refine r_if_ne hC 26 dX11_sunk_19 (by decide) o6.1 o6.2 (fun c8 => ?_) (fun c8 => ?_)
    · have hw := hwt c8
      refine r_iload_n hC dX11_sunk_26 rfl rfl ?_
      refine r_iconst hC dX11_sunk_27 ?_
      refine r_iconst hC dX11_sunk_28 ?_
      refine r_callS hC (d_S_beyond hw) kC11_beyond km11_86 kT11_beyond kN11 dd_11_beyond ⟨Nat.le_of_ble_eq_true rfl, Nat.le_of_ble_eq_true rfl⟩ rfl (Nat.le_of_ble_eq_true rfl) dX11_sunk_29 (fun r M' hp => ?_)
      obtain ⟨rfl, a9, rfl, hw⟩ := hp
      try dsimp only at hw
      obtain ⟨o10, hw⟩ := hw
      obtain ⟨hwt, hwf⟩ := hw
      refine r_if_eq hC 39 dX11_sunk_32 (by decide) o10.1 o10.2 (fun c12 => ?_) (fun c12 => ?_)
      · have hw := hwt c12
        refine r_aload_n hC dX11_sunk_39 rfl rfl ?_
        refine r_iload_n hC dX11_sunk_40 rfl rfl ?_
        refine r_iload_n hC dX11_sunk_41 rfl rfl ?_
        refine r_callV hC (d_S_surveyHouse hw) rfl kC11_surveyHouse km11_286 kI11_surveyHouse kS11_surveyHouse kN11 dd_11_surveyHouse ⟨Nat.le_of_ble_eq_true rfl, Nat.le_of_ble_eq_true rfl⟩ rfl (Nat.le_of_ble_eq_true rfl) dX11_sunk_42 (fun r M' hp => ?_)
        obtain ⟨rfl, hw⟩ := hp
        try dsimp only at hw
        refine r_aload_n hC dX11_sunk_45 rfl rfl ?_
        refine r_getR hC 8 rfl (by decide) kf11_62 rfl rfl dX11_sunk_46 ?_
        refine r_getI hC 0 rfl (by decide) kf11_230 rfl rfl dX11_sunk_49 (fun b16 b16' => ?_)
        replace hw := hw _ rfl b16 b16'
        obtain ⟨hwt, hwf⟩ := hw
        refine r_if_ne hC 61 dX11_sunk_52 (by decide) (by omega) (by omega) (fun c19 => ?_) (fun c19 => ?_)
        · have hw := hwt c19
          refine r_aload_n hC dX11_sunk_61 rfl rfl ?_
          refine r_getR hC 8 rfl (by decide) kf11_62 rfl rfl dX11_sunk_62 ?_
          refine r_iload_n hC dX11_sunk_65 rfl rfl ?_
          refine r_callV hC (d_Survey_fraction hw) rfl kC6_fraction km11_235 kI6_fraction kS6_fraction kN6 dd_6_fraction ⟨Nat.le_of_ble_eq_true rfl, Nat.le_of_ble_eq_true rfl⟩ rfl (Nat.le_of_ble_eq_true rfl) dX11_sunk_66 (fun r M' hp => ?_)
          obtain ⟨rfl, a20, rfl, hw⟩ := hp
          try dsimp only at hw
          exact hQ _ _ _ _ dX11_sunk_69 hw
        · have hw := hwf c19
          refine r_ldc2 hC (-1005) dX11_sunk_55 kL11_233 (by decide) ?_
          refine r_goto hC 69 dX11_sunk_58 (by decide) ?_
          exact hQ _ _ _ _ dX11_sunk_69 hw
      · have hw := hwf c12
        refine r_ldc2 hC (-1002) dX11_sunk_35 kL11_224 (by decide) ?_
        exact hQ _ _ _ _ dX11_sunk_38 hw
    · have hw := hwf c8
      refine r_ldc2 hC (-1001) dX11_sunk_22 kL11_222 (by decide) ?_
      exact hQ _ _ _ _ dX11_sunk_25 hw
set_option maxRecDepth 100000 in
set_option maxHeartbeats 4000000 in
theorem d_S_sunk {l : Launch} {D : va_G} {aC : Nat → ClassId} {ad : Nat → Nat} {M : Mem} {x1 : Int} {x2 : Int} {x3 : Int} {Q : Int → Mem → Prop} (hw : w_S_sunk M x1 x2 x3 Q) : Does l D aC ad yX11_sunk cX11_sunk 4 (some .long) 6 146 [vR 0, vI x1, vI x2, vI x3] M (pJ Q) :=
  Does.of (by decide) (Nat.le_of_ble_eq_true rfl) (fun p e R s m args below meth c hC => r_subk (s_S_sunk hC (fun pc L z M d h => r_lret hC d ⟨z, rfl, h⟩) hw) ⟨rfl, rfl, rfl, rfl, trivial⟩)
/-- SoupSand$Trial.greatestPart -/
def w_Trial_greatestPart_B0 (Q : Int → Prop) (x1 : Int) (M : Mem) (X4 : Int → Int → Prop) (x2 : Int) (x3 : Int) : Prop :=
  ∀ a1 : Int, a1 = M 1 10 → 0 ≤ a1 → a1 ≤ 6 → (-2147483648 ≤ x3 ∧ x3 ≤ 2147483647) ∧ ((a1 ≤ x3 → Q x2) ∧ (¬ (a1 ≤ x3) → w_Trial_partOf M x3 x1 (fun a6 => w_Trial_partOf M x2 x1 (fun a7 => (-2147483648 ≤ a6 ∧ a6 ≤ 2147483647) ∧ ((-2147483648 ≤ a7 ∧ a7 ≤ 2147483647) ∧ ((a6 ≤ a7 → X4 x2 (x3 + 1)) ∧ (¬ (a6 ≤ a7) → X4 x3 (x3 + 1))))))))
set_option maxRecDepth 100000 in
set_option maxHeartbeats 4000000 in
theorem s_Trial_greatestPart_B0 {Q : Int → Prop} {x1 : Int} {M : Mem} {X4 : Int → Int → Prop} {x2 : Int} {x3 : Int} (hC : rC p R s m args meth c cells slots D aC ad 4 cX8_greatestPart RX8 2 47 (some .int)) (hQ : ∀ (pc : Nat) (L : List (Nat × RV)) (z : Int), decode cX8_greatestPart pc = .ok (.ireturn, 1) → Q z → rG p l e R s m args below meth c cells slots Qs D aC ad 4 pc L [vI z] M) (hX4 : ∀ (x2 : Int) (x3 : Int), X4 x2 x3 → rG p l e R s m args below meth c cells slots Qs D aC ad 4 4 [(0, vR 1), (1, vI x1), (2, vI x2), (3, vI x3)] [] M) (hw : w_Trial_greatestPart_B0 Q x1 M X4 x2 x3) : rG p l e R s m args below meth c cells slots Qs D aC ad 4 4 [(0, vR 1), (1, vI x1), (2, vI x2), (3, vI x3)] [] M := by
  unfold w_Trial_greatestPart_B0 at hw
  refine r_iload_n hC dX8_greatestPart_4 rfl rfl ?_
  refine r_aload_n hC dX8_greatestPart_5 rfl rfl ?_
  refine r_getI hC 10 rfl (by decide) kf8_58 rfl rfl dX8_greatestPart_6 (fun b2 b2' => ?_)
  replace hw := hw _ rfl b2 b2'
  obtain ⟨o3, hw⟩ := hw
  obtain ⟨hwt, hwf⟩ := hw
  refine r_icmp_ge hC 35 dX8_greatestPart_9 (by decide) o3.1 o3.2 (by omega) (by omega) (fun c5 => ?_) (fun c5 => ?_)
  · have hw := hwt c5
    refine r_iload_n hC dX8_greatestPart_35 rfl rfl ?_
    exact hQ _ _ _ dX8_greatestPart_36 hw
  · have hw := hwf c5
    refine r_aload_n hC dX8_greatestPart_12 rfl rfl ?_
    refine r_iload_n hC dX8_greatestPart_13 rfl rfl ?_
    refine r_iload_n hC dX8_greatestPart_14 rfl rfl ?_
    refine r_callV hC (d_Trial_partOf hw) rfl kC8_partOf km8_158 kI8_partOf kS8_partOf kN8 dd_8_partOf ⟨Nat.le_of_ble_eq_true rfl, Nat.le_of_ble_eq_true rfl⟩ rfl (Nat.le_of_ble_eq_true rfl) dX8_greatestPart_15 (fun r M' hp => ?_)
    obtain ⟨rfl, a6, rfl, hw⟩ := hp
    try dsimp only at hw
    refine r_aload_n hC dX8_greatestPart_18 rfl rfl ?_
    refine r_iload_n hC dX8_greatestPart_19 rfl rfl ?_
    refine r_iload_n hC dX8_greatestPart_20 rfl rfl ?_
    refine r_callV hC (d_Trial_partOf hw) rfl kC8_partOf km8_158 kI8_partOf kS8_partOf kN8 dd_8_partOf ⟨Nat.le_of_ble_eq_true rfl, Nat.le_of_ble_eq_true rfl⟩ rfl (Nat.le_of_ble_eq_true rfl) dX8_greatestPart_21 (fun r M' hp => ?_)
    obtain ⟨rfl, a7, rfl, hw⟩ := hp
    try dsimp only at hw
    obtain ⟨o8, hw⟩ := hw
    obtain ⟨o9, hw⟩ := hw
    obtain ⟨hwt, hwf⟩ := hw
    refine r_icmp_le hC 29 dX8_greatestPart_24 (by decide) o8.1 o8.2 o9.1 o9.2 (fun c10 => ?_) (fun c10 => ?_)
    · have hw := hwt c10
      refine r_iinc hC dX8_greatestPart_29 rfl (by decide) ?_
      refine r_goto hC 4 dX8_greatestPart_32 (by decide) ?_
      exact r_subk (hX4 _ _ hw) ⟨rfl, rfl, rfl, rfl, trivial⟩
    · have hw := hwf c10
      refine r_iload_n hC dX8_greatestPart_27 rfl rfl ?_
      refine r_istore_n hC dX8_greatestPart_28 rfl (by decide) ?_
      refine r_iinc hC dX8_greatestPart_29 rfl (by decide) ?_
      refine r_goto hC 4 dX8_greatestPart_32 (by decide) ?_
      exact r_subk (hX4 _ _ hw) ⟨rfl, rfl, rfl, rfl, trivial⟩
def w_Trial_greatestPart_L0 (Q : Int → Prop) (x1 : Int) (M : Mem) (x2 : Int) (x3 : Int) : Prop :=
  ∀ X : Int → Int → Prop, (∀ (x2 : Int) (x3 : Int), w_Trial_greatestPart_B0 Q x1 M X x2 x3 → X x2 x3) → X x2 x3
set_option maxRecDepth 100000 in
set_option maxHeartbeats 4000000 in
theorem s_Trial_greatestPart_L0 {Q : Int → Prop} {x1 : Int} {M : Mem} {x2 : Int} {x3 : Int} (hC : rC p R s m args meth c cells slots D aC ad 4 cX8_greatestPart RX8 2 47 (some .int)) (hQ : ∀ (pc : Nat) (L : List (Nat × RV)) (z : Int), decode cX8_greatestPart pc = .ok (.ireturn, 1) → Q z → rG p l e R s m args below meth c cells slots Qs D aC ad 4 pc L [vI z] M) (hw : w_Trial_greatestPart_L0 Q x1 M x2 x3) : rG p l e R s m args below meth c cells slots Qs D aC ad 4 4 [(0, vR 1), (1, vI x1), (2, vI x2), (3, vI x3)] [] M := by
  unfold w_Trial_greatestPart_L0 at hw
  exact hw (fun x2 x3 => rG p l e R s m args below meth c cells slots Qs D aC ad 4 4 [(0, vR 1), (1, vI x1), (2, vI x2), (3, vI x3)] [] M) (fun x2 x3 hb => s_Trial_greatestPart_B0 hC hQ (fun _ _ h => h) hb)
def w_Trial_greatestPart (M : Mem) (x1 : Int) (Q : Int → Prop) : Prop :=
  w_Trial_greatestPart_L0 Q x1 M 0 1
set_option maxRecDepth 100000 in
set_option maxHeartbeats 4000000 in
theorem s_Trial_greatestPart {M : Mem} {x1 : Int} {Q : Int → Prop} (hC : rC p R s m args meth c cells slots D aC ad 4 cX8_greatestPart RX8 2 47 (some .int)) (hQ : ∀ (pc : Nat) (L : List (Nat × RV)) (z : Int), decode cX8_greatestPart pc = .ok (.ireturn, 1) → Q z → rG p l e R s m args below meth c cells slots Qs D aC ad 4 pc L [vI z] M) (hw : w_Trial_greatestPart M x1 Q) : rG p l e R s m args below meth c cells slots Qs D aC ad 4 0 [(0, vR 1), (1, vI x1)] [] M := by
  unfold w_Trial_greatestPart at hw
  refine r_iconst hC dX8_greatestPart_0 ?_
  refine r_istore_n hC dX8_greatestPart_1 rfl (by decide) ?_
  refine r_iconst hC dX8_greatestPart_2 ?_
  refine r_istore_n hC dX8_greatestPart_3 rfl (by decide) ?_
  exact r_subk (s_Trial_greatestPart_L0 hC hQ hw) ⟨rfl, rfl, rfl, rfl, trivial⟩
set_option maxRecDepth 100000 in
set_option maxHeartbeats 4000000 in
theorem d_Trial_greatestPart {l : Launch} {D : va_G} {aC : Nat → ClassId} {ad : Nat → Nat} {M : Mem} {x1 : Int} {Q : Int → Prop} (hw : w_Trial_greatestPart M x1 Q) : Does l D aC ad yX8_greatestPart cX8_greatestPart 4 (some .int) 2 47 [vR 1, vI x1] M (qI M Q) :=
  Does.of (by decide) (Nat.le_of_ble_eq_true rfl) (fun p e R s m args below meth c hC => r_subk (s_Trial_greatestPart hC (fun pc L z d h => r_iret hC d ⟨rfl, ⟨z, rfl, h⟩⟩) hw) ⟨rfl, rfl, trivial⟩)
theorem dd_8_greatestPart : yX8_greatestPart.cls ≠ "java/lang/invoke/MethodHandle" ∧ yX8_greatestPart.cls ≠ "java/lang/invoke/VarHandle" ∧ (parseMethodDescriptor yX8_greatestPart.desc).map (fun d => d.parameters.length) = some 1 := by decide +kernel
/-- SoupSand.led -/
def w_S_led (M : Mem) (x1 : Int) (x2 : Int) (x3 : Int) (Q : Int → Mem → Prop) : Prop :=
  w_Houses_hasHouse M x1 (fun a1 => (-2147483648 ≤ a1 ∧ a1 ≤ 2147483647) ∧ ((a1 = 0 → Q (-1001) M) ∧ (¬ (a1 = 0) → w_Shakes_hasShake M x2 (fun a5 => (-2147483648 ≤ a5 ∧ a5 ≤ 2147483647) ∧ ((¬ (a5 = 0) → w_S_beyond M x3 0 1 (fun a9 => (-2147483648 ≤ a9 ∧ a9 ≤ 2147483647) ∧ ((a9 = 0 → w_S_firstSink M x1 x2 (fun a13 M14 => w_Rules_mark M14 (fun a15 => (-2147483648 ≤ a13 ∧ a13 ≤ 2147483647) ∧ ((-2147483648 ≤ a15 ∧ a15 ≤ 2147483647) ∧ ((a15 ≤ a13 → (0 ≤ x1 ∧ x1 < 8) ∧ (∀ a20 : Int, a20 = M14 39 x1 → 0 ≤ a20 → a20 ≤ 60 → w_Trial_greatestPart M14 a20 (fun a22 => (-2147483648 ≤ x3 ∧ x3 ≤ 2147483647) ∧ ((¬ (x3 = 0) → (0 ≤ a22 ∧ a22 < 6) ∧ (∀ a27 : Int, a27 = M14 15 a22 → -1 ≤ a27 → a27 ≤ 59 → Q a27 M14)) ∧ (x3 = 0 → Q a22 M14))))) ∧ (¬ (a15 ≤ a13) → Q (-1003) M14)))))) ∧ (¬ (a9 = 0) → Q (-1002) M)))) ∧ (a5 = 0 → Q (-1001) M))))))
set_option maxRecDepth 100000 in
set_option maxHeartbeats 4000000 in
theorem s_S_led {M : Mem} {x1 : Int} {x2 : Int} {x3 : Int} {Q : Int → Mem → Prop} (hC : rC p R s m args meth c cells slots D aC ad 5 cX11_led RX11 5 117 (some .int)) (hQ : ∀ (pc : Nat) (L : List (Nat × RV)) (z : Int) (M : Mem), decode cX11_led pc = .ok (.ireturn, 1) → Q z M → rG p l e R s m args below meth c cells slots Qs D aC ad 5 pc L [vI z] M) (hw : w_S_led M x1 x2 x3 Q) : rG p l e R s m args below meth c cells slots Qs D aC ad 5 0 [(0, vR 0), (1, vI x1), (2, vI x2), (3, vI x3)] [] M := by
  unfold w_S_led at hw
  refine r_aload_n hC dX11_led_0 rfl rfl ?_
  refine r_getR hC 5 rfl (by decide) kf11_41 rfl rfl dX11_led_1 ?_
  refine r_iload_n hC dX11_led_4 rfl rfl ?_
  refine r_callV hC (d_Houses_hasHouse hw) rfl kC1_hasHouse km11_280 kI1_hasHouse kS1_hasHouse kN1 dd_1_hasHouse ⟨Nat.le_of_ble_eq_true rfl, Nat.le_of_ble_eq_true rfl⟩ rfl (Nat.le_of_ble_eq_true rfl) dX11_led_5 (fun r M' hp => ?_)
  obtain ⟨rfl, a1, rfl, hw⟩ := hp
  try dsimp only at hw
  obtain ⟨o2, hw⟩ := hw
  obtain ⟨hwt, hwf⟩ := hw
  refine r_if_eq hC 22 dX11_led_8 (by decide) o2.1 o2.2 (fun c4 => ?_) (fun c4 => ?_)
  · have hw := hwt c4
    refine r_sipush hC dX11_led_22 (by decide) ?_
    exact hQ _ _ _ _ dX11_led_25 hw
  · have hw := hwf c4
    refine r_aload_n hC dX11_led_11 rfl rfl ?_
    refine r_getR hC 2 rfl (by decide) kf11_25 rfl rfl dX11_led_12 ?_
    refine r_iload_n hC dX11_led_15 rfl rfl ?_
    refine r_callV hC (d_Shakes_hasShake hw) rfl kC4_hasShake km11_147 kI4_hasShake kS4_hasShake kN4 dd_4_hasShake ⟨Nat.le_of_ble_eq_true rfl, Nat.le_of_ble_eq_true rfl⟩ rfl (Nat.le_of_ble_eq_true rfl) dX11_led_16 (fun r M' hp => ?_)
    obtain ⟨rfl, a5, rfl, hw⟩ := hp
    try dsimp only at hw
    obtain ⟨o6, hw⟩ := hw
    obtain ⟨hwt, hwf⟩ := hw
    refine r_if_ne hC 26 dX11_led_19 (by decide) o6.1 o6.2 (fun c8 => ?_) (fun c8 => ?_)
    · have hw := hwt c8
      refine r_iload_n hC dX11_led_26 rfl rfl ?_
      refine r_iconst hC dX11_led_27 ?_
      refine r_iconst hC dX11_led_28 ?_
      refine r_callS hC (d_S_beyond hw) kC11_beyond km11_86 kT11_beyond kN11 dd_11_beyond ⟨Nat.le_of_ble_eq_true rfl, Nat.le_of_ble_eq_true rfl⟩ rfl (Nat.le_of_ble_eq_true rfl) dX11_led_29 (fun r M' hp => ?_)
      obtain ⟨rfl, a9, rfl, hw⟩ := hp
      try dsimp only at hw
      obtain ⟨o10, hw⟩ := hw
      obtain ⟨hwt, hwf⟩ := hw
      refine r_if_eq hC 39 dX11_led_32 (by decide) o10.1 o10.2 (fun c12 => ?_) (fun c12 => ?_)
      · have hw := hwt c12
        refine r_aload_n hC dX11_led_39 rfl rfl ?_
        refine r_iload_n hC dX11_led_40 rfl rfl ?_
        refine r_iload_n hC dX11_led_41 rfl rfl ?_
        refine r_callV hC (d_S_firstSink hw) rfl kC11_firstSink km11_283 kI11_firstSink kS11_firstSink kN11 dd_11_firstSink ⟨Nat.le_of_ble_eq_true rfl, Nat.le_of_ble_eq_true rfl⟩ rfl (Nat.le_of_ble_eq_true rfl) dX11_led_42 (fun r M' hp => ?_)
        obtain ⟨a13, rfl, hw⟩ := hp
        try dsimp only at hw
        refine r_aload_n hC dX11_led_45 rfl rfl ?_
        refine r_getR hC 3 rfl (by decide) kf11_30 rfl rfl dX11_led_46 ?_
        refine r_callV hC (d_Rules_mark hw) rfl kC3_mark km11_292 kI3_mark kS3_mark kN3 dd_3_mark ⟨Nat.le_of_ble_eq_true rfl, Nat.le_of_ble_eq_true rfl⟩ rfl (Nat.le_of_ble_eq_true rfl) dX11_led_49 (fun r M' hp => ?_)
        obtain ⟨rfl, a15, rfl, hw⟩ := hp
        try dsimp only at hw
        obtain ⟨o16, hw⟩ := hw
        obtain ⟨o17, hw⟩ := hw
        obtain ⟨hwt, hwf⟩ := hw
        refine r_icmp_ge hC 59 dX11_led_52 (by decide) o16.1 o16.2 o17.1 o17.2 (fun c18 => ?_) (fun c18 => ?_)
        · have hw := hwt c18
          refine r_aload_n hC dX11_led_59 rfl rfl ?_
          refine r_getR hC 0 rfl (by decide) kf11_10 rfl rfl dX11_led_60 ?_
          refine r_aload_n hC dX11_led_63 rfl rfl ?_
          refine r_getR hC 5 rfl (by decide) kf11_41 rfl rfl dX11_led_64 ?_
          refine r_getR hC 1 rfl (by decide) kf11_297 rfl rfl dX11_led_67 ?_
          refine r_iload_n hC dX11_led_70 rfl rfl ?_
          obtain ⟨o19, hw⟩ := hw
          refine r_iald hC rfl o19.1 o19.2 (by decide) (by decide) dX11_led_71 (fun b21 b21' => ?_)
          replace hw := hw _ rfl b21 b21'
          refine r_callV hC (d_Trial_greatestPart hw) rfl kC8_greatestPart km11_300 kI8_greatestPart kS8_greatestPart kN8 dd_8_greatestPart ⟨Nat.le_of_ble_eq_true rfl, Nat.le_of_ble_eq_true rfl⟩ rfl (Nat.le_of_ble_eq_true rfl) dX11_led_72 (fun r M' hp => ?_)
          obtain ⟨rfl, a22, rfl, hw⟩ := hp
          try dsimp only at hw
          refine r_istore hC dX11_led_75 (by decide) ?_
          refine r_iload_n hC dX11_led_77 rfl rfl ?_
          obtain ⟨o23, hw⟩ := hw
          obtain ⟨hwt, hwf⟩ := hw
          refine r_if_ne hC 86 dX11_led_78 (by decide) o23.1 o23.2 (fun c25 => ?_) (fun c25 => ?_)
          · have hw := hwt c25
            refine r_aload_n hC dX11_led_86 rfl rfl ?_
            refine r_getR hC 0 rfl (by decide) kf11_10 rfl rfl dX11_led_87 ?_
            refine r_getR hC 5 rfl (by decide) kf11_182 rfl rfl dX11_led_90 ?_
            refine r_iload hC dX11_led_93 rfl ?_
            obtain ⟨o26, hw⟩ := hw
            refine r_iald hC rfl o26.1 o26.2 (by decide) (by decide) dX11_led_95 (fun b28 b28' => ?_)
            replace hw := hw _ rfl b28 b28'
            exact hQ _ _ _ _ dX11_led_96 hw
          · have hw := hwf c25
            refine r_iload hC dX11_led_81 rfl ?_
            refine r_goto hC 96 dX11_led_83 (by decide) ?_
            exact hQ _ _ _ _ dX11_led_96 hw
        · have hw := hwf c18
          refine r_sipush hC dX11_led_55 (by decide) ?_
          exact hQ _ _ _ _ dX11_led_58 hw
      · have hw := hwf c12
        refine r_sipush hC dX11_led_35 (by decide) ?_
        exact hQ _ _ _ _ dX11_led_38 hw
    · have hw := hwf c8
      refine r_sipush hC dX11_led_22 (by decide) ?_
      exact hQ _ _ _ _ dX11_led_25 hw
set_option maxRecDepth 100000 in
set_option maxHeartbeats 4000000 in
theorem d_S_led {l : Launch} {D : va_G} {aC : Nat → ClassId} {ad : Nat → Nat} {M : Mem} {x1 : Int} {x2 : Int} {x3 : Int} {Q : Int → Mem → Prop} (hw : w_S_led M x1 x2 x3 Q) : Does l D aC ad yX11_led cX11_led 5 (some .int) 5 117 [vR 0, vI x1, vI x2, vI x3] M (pI Q) :=
  Does.of (by decide) (Nat.le_of_ble_eq_true rfl) (fun p e R s m args below meth c hC => r_subk (s_S_led hC (fun pc L z M d h => r_iret hC d ⟨z, rfl, h⟩) hw) ⟨rfl, rfl, rfl, rfl, trivial⟩)
/-- SoupSand.lean -/
def w_S_lean (M : Mem) (x1 : Int) (x2 : Int) (x3 : Int) (Q : Int → Mem → Prop) : Prop :=
  w_Houses_hasHouse M x1 (fun a1 => (-2147483648 ≤ a1 ∧ a1 ≤ 2147483647) ∧ ((a1 = 0 → Q (-1001) M) ∧ (¬ (a1 = 0) → w_Houses_hasHouse M x2 (fun a5 => (-2147483648 ≤ a5 ∧ a5 ≤ 2147483647) ∧ ((a5 = 0 → Q (-1001) M) ∧ (¬ (a5 = 0) → w_Shakes_hasShake M x3 (fun a9 => (-2147483648 ≤ a9 ∧ a9 ≤ 2147483647) ∧ ((¬ (a9 = 0) → w_S_firstSink M x1 x3 (fun a13 M14 => w_S_firstSink M14 x2 x3 (fun a15 M16 => (-2147483648 ≤ a13 - a15 ∧ a13 - a15 ≤ 2147483647) ∧ (Q (if 0 ≤ a13 - a15 then a13 - a15 else -(a13 - a15)) M16)))) ∧ (a9 = 0 → Q (-1001) M)))))))))
set_option maxRecDepth 100000 in
set_option maxHeartbeats 4000000 in
theorem s_S_lean {M : Mem} {x1 : Int} {x2 : Int} {x3 : Int} {Q : Int → Mem → Prop} (hC : rC p R s m args meth c cells slots D aC ad 4 cX11_lean RX11 5 117 (some .int)) (hQ : ∀ (pc : Nat) (L : List (Nat × RV)) (z : Int) (M : Mem), decode cX11_lean pc = .ok (.ireturn, 1) → Q z M → rG p l e R s m args below meth c cells slots Qs D aC ad 4 pc L [vI z] M) (hw : w_S_lean M x1 x2 x3 Q) : rG p l e R s m args below meth c cells slots Qs D aC ad 4 0 [(0, vR 0), (1, vI x1), (2, vI x2), (3, vI x3)] [] M := by
  unfold w_S_lean at hw
  refine r_aload_n hC dX11_lean_0 rfl rfl ?_
  refine r_getR hC 5 rfl (by decide) kf11_41 rfl rfl dX11_lean_1 ?_
  refine r_iload_n hC dX11_lean_4 rfl rfl ?_
  refine r_callV hC (d_Houses_hasHouse hw) rfl kC1_hasHouse km11_280 kI1_hasHouse kS1_hasHouse kN1 dd_1_hasHouse ⟨Nat.le_of_ble_eq_true rfl, Nat.le_of_ble_eq_true rfl⟩ rfl (Nat.le_of_ble_eq_true rfl) dX11_lean_5 (fun r M' hp => ?_)
  obtain ⟨rfl, a1, rfl, hw⟩ := hp
  try dsimp only at hw
  obtain ⟨o2, hw⟩ := hw
  obtain ⟨hwt, hwf⟩ := hw
  refine r_if_eq hC 33 dX11_lean_8 (by decide) o2.1 o2.2 (fun c4 => ?_) (fun c4 => ?_)
  · have hw := hwt c4
    refine r_sipush hC dX11_lean_33 (by decide) ?_
    exact hQ _ _ _ _ dX11_lean_36 hw
  · have hw := hwf c4
    refine r_aload_n hC dX11_lean_11 rfl rfl ?_
    refine r_getR hC 5 rfl (by decide) kf11_41 rfl rfl dX11_lean_12 ?_
    refine r_iload_n hC dX11_lean_15 rfl rfl ?_
    refine r_callV hC (d_Houses_hasHouse hw) rfl kC1_hasHouse km11_280 kI1_hasHouse kS1_hasHouse kN1 dd_1_hasHouse ⟨Nat.le_of_ble_eq_true rfl, Nat.le_of_ble_eq_true rfl⟩ rfl (Nat.le_of_ble_eq_true rfl) dX11_lean_16 (fun r M' hp => ?_)
    obtain ⟨rfl, a5, rfl, hw⟩ := hp
    try dsimp only at hw
    obtain ⟨o6, hw⟩ := hw
    obtain ⟨hwt, hwf⟩ := hw
    refine r_if_eq hC 33 dX11_lean_19 (by decide) o6.1 o6.2 (fun c8 => ?_) (fun c8 => ?_)
    · have hw := hwt c8
      refine r_sipush hC dX11_lean_33 (by decide) ?_
      exact hQ _ _ _ _ dX11_lean_36 hw
    · have hw := hwf c8
      refine r_aload_n hC dX11_lean_22 rfl rfl ?_
      refine r_getR hC 2 rfl (by decide) kf11_25 rfl rfl dX11_lean_23 ?_
      refine r_iload_n hC dX11_lean_26 rfl rfl ?_
      refine r_callV hC (d_Shakes_hasShake hw) rfl kC4_hasShake km11_147 kI4_hasShake kS4_hasShake kN4 dd_4_hasShake ⟨Nat.le_of_ble_eq_true rfl, Nat.le_of_ble_eq_true rfl⟩ rfl (Nat.le_of_ble_eq_true rfl) dX11_lean_27 (fun r M' hp => ?_)
      obtain ⟨rfl, a9, rfl, hw⟩ := hp
      try dsimp only at hw
      obtain ⟨o10, hw⟩ := hw
      obtain ⟨hwt, hwf⟩ := hw
      refine r_if_ne hC 37 dX11_lean_30 (by decide) o10.1 o10.2 (fun c12 => ?_) (fun c12 => ?_)
      · have hw := hwt c12
        refine r_aload_n hC dX11_lean_37 rfl rfl ?_
        refine r_iload_n hC dX11_lean_38 rfl rfl ?_
        refine r_iload_n hC dX11_lean_39 rfl rfl ?_
        refine r_callV hC (d_S_firstSink hw) rfl kC11_firstSink km11_283 kI11_firstSink kS11_firstSink kN11 dd_11_firstSink ⟨Nat.le_of_ble_eq_true rfl, Nat.le_of_ble_eq_true rfl⟩ rfl (Nat.le_of_ble_eq_true rfl) dX11_lean_40 (fun r M' hp => ?_)
        obtain ⟨a13, rfl, hw⟩ := hp
        try dsimp only at hw
        refine r_aload_n hC dX11_lean_43 rfl rfl ?_
        refine r_iload_n hC dX11_lean_44 rfl rfl ?_
        refine r_iload_n hC dX11_lean_45 rfl rfl ?_
        refine r_callV hC (d_S_firstSink hw) rfl kC11_firstSink km11_283 kI11_firstSink kS11_firstSink kN11 dd_11_firstSink ⟨Nat.le_of_ble_eq_true rfl, Nat.le_of_ble_eq_true rfl⟩ rfl (Nat.le_of_ble_eq_true rfl) dX11_lean_46 (fun r M' hp => ?_)
        obtain ⟨a15, rfl, hw⟩ := hp
        try dsimp only at hw
        refine r_isub hC dX11_lean_49 ?_
        obtain ⟨o17, hw⟩ := hw
        refine r_abs hC km11_303 (by decide) (Nat.le_of_ble_eq_true rfl) dX11_lean_50 o17.1 o17.2 ?_
        exact hQ _ _ _ _ dX11_lean_53 hw
      · have hw := hwf c12
        refine r_sipush hC dX11_lean_33 (by decide) ?_
        exact hQ _ _ _ _ dX11_lean_36 hw
set_option maxRecDepth 100000 in
set_option maxHeartbeats 4000000 in
theorem d_S_lean {l : Launch} {D : va_G} {aC : Nat → ClassId} {ad : Nat → Nat} {M : Mem} {x1 : Int} {x2 : Int} {x3 : Int} {Q : Int → Mem → Prop} (hw : w_S_lean M x1 x2 x3 Q) : Does l D aC ad yX11_lean cX11_lean 4 (some .int) 5 117 [vR 0, vI x1, vI x2, vI x3] M (pI Q) :=
  Does.of (by decide) (Nat.le_of_ble_eq_true rfl) (fun p e R s m args below meth c hC => r_subk (s_S_lean hC (fun pc L z M d h => r_iret hC d ⟨z, rfl, h⟩) hw) ⟨rfl, rfl, rfl, rfl, trivial⟩)
/-- SoupSand$Tanks.addTank -/
def w_Tanks_addTank (M : Mem) (x1 : Int) (x2 : Int) (x3 : Int) (x4 : Int) (Q : Int → Mem → Prop) : Prop :=
  ∀ a1 : Int, a1 = M 7 4 → 0 ≤ a1 → a1 ≤ 8 → ((0 ≤ a1 ∧ a1 < 8) ∧ (0 ≤ x1 ∧ x1 ≤ 5)) ∧ (∀ M4 : Mem, M4 = mset M 41 a1 x1 → ∀ a5 : Int, a5 = M4 7 4 → 0 ≤ a5 → a5 ≤ 8 → ((0 ≤ a5 ∧ a5 < 8) ∧ (0 ≤ x2 ∧ x2 ≤ 5)) ∧ (∀ M8 : Mem, M8 = mset M4 42 a5 x2 → ∀ a9 : Int, a9 = M8 7 4 → 0 ≤ a9 → a9 ≤ 8 → ((0 ≤ a9 ∧ a9 < 8) ∧ (0 ≤ x3 ∧ x3 ≤ 999)) ∧ (∀ M12 : Mem, M12 = mset M8 43 a9 x3 → ∀ a13 : Int, a13 = M12 7 4 → 0 ≤ a13 → a13 ≤ 8 → ((0 ≤ a13 ∧ a13 < 8) ∧ (0 ≤ x4 ∧ x4 ≤ 99)) ∧ (∀ M16 : Mem, M16 = mset M12 44 a13 x4 → ∀ a17 : Int, a17 = M16 7 4 → 0 ≤ a17 → a17 ≤ 8 → (0 ≤ a17 + 1 ∧ a17 + 1 ≤ 8) ∧ (∀ M20 : Mem, M20 = mset M16 7 4 (a17 + 1) → ∀ a21 : Int, a21 = M20 7 4 → 0 ≤ a21 → a21 ≤ 8 → Q (a21 - 1) M20)))))
set_option maxRecDepth 100000 in
set_option maxHeartbeats 4000000 in
theorem s_Tanks_addTank {M : Mem} {x1 : Int} {x2 : Int} {x3 : Int} {x4 : Int} {Q : Int → Mem → Prop} (hC : rC p R s m args meth c cells slots D aC ad 5 cX7_addTank RX7 0 0 (some .int)) (hQ : ∀ (pc : Nat) (L : List (Nat × RV)) (z : Int) (M : Mem), decode cX7_addTank pc = .ok (.ireturn, 1) → Q z M → rG p l e R s m args below meth c cells slots Qs D aC ad 5 pc L [vI z] M) (hw : w_Tanks_addTank M x1 x2 x3 x4 Q) : rG p l e R s m args below meth c cells slots Qs D aC ad 5 0 [(0, vR 7), (1, vI x1), (2, vI x2), (3, vI x3), (4, vI x4)] [] M := by
  unfold w_Tanks_addTank at hw
  refine r_aload_n hC dX7_addTank_0 rfl rfl ?_
  refine r_getR hC 0 rfl (by decide) kf7_9 rfl rfl dX7_addTank_1 ?_
  refine r_aload_n hC dX7_addTank_4 rfl rfl ?_
  refine r_getI hC 4 rfl (by decide) kf7_24 rfl rfl dX7_addTank_5 (fun b2 b2' => ?_)
  replace hw := hw _ rfl b2 b2'
  refine r_iload_n hC dX7_addTank_8 rfl rfl ?_
  obtain ⟨o3, hw⟩ := hw
  refine r_iast hC rfl o3.1.1 o3.1.2 (by decide) (by decide) o3.2.1 o3.2.2 dX7_addTank_9 ?_
  replace hw := hw _ rfl
  refine r_aload_n hC dX7_addTank_10 rfl rfl ?_
  refine r_getR hC 1 rfl (by decide) kf7_15 rfl rfl dX7_addTank_11 ?_
  refine r_aload_n hC dX7_addTank_14 rfl rfl ?_
  refine r_getI hC 4 rfl (by decide) kf7_24 rfl rfl dX7_addTank_15 (fun b6 b6' => ?_)
  replace hw := hw _ rfl b6 b6'
  refine r_iload_n hC dX7_addTank_18 rfl rfl ?_
  obtain ⟨o7, hw⟩ := hw
  refine r_iast hC rfl o7.1.1 o7.1.2 (by decide) (by decide) o7.2.1 o7.2.2 dX7_addTank_19 ?_
  replace hw := hw _ rfl
  refine r_aload_n hC dX7_addTank_20 rfl rfl ?_
  refine r_getR hC 2 rfl (by decide) kf7_18 rfl rfl dX7_addTank_21 ?_
  refine r_aload_n hC dX7_addTank_24 rfl rfl ?_
  refine r_getI hC 4 rfl (by decide) kf7_24 rfl rfl dX7_addTank_25 (fun b10 b10' => ?_)
  replace hw := hw _ rfl b10 b10'
  refine r_iload_n hC dX7_addTank_28 rfl rfl ?_
  obtain ⟨o11, hw⟩ := hw
  refine r_iast hC rfl o11.1.1 o11.1.2 (by decide) (by decide) o11.2.1 o11.2.2 dX7_addTank_29 ?_
  replace hw := hw _ rfl
  refine r_aload_n hC dX7_addTank_30 rfl rfl ?_
  refine r_getR hC 3 rfl (by decide) kf7_21 rfl rfl dX7_addTank_31 ?_
  refine r_aload_n hC dX7_addTank_34 rfl rfl ?_
  refine r_getI hC 4 rfl (by decide) kf7_24 rfl rfl dX7_addTank_35 (fun b14 b14' => ?_)
  replace hw := hw _ rfl b14 b14'
  refine r_iload hC dX7_addTank_38 rfl ?_
  obtain ⟨o15, hw⟩ := hw
  refine r_iast hC rfl o15.1.1 o15.1.2 (by decide) (by decide) o15.2.1 o15.2.2 dX7_addTank_40 ?_
  replace hw := hw _ rfl
  refine r_aload_n hC dX7_addTank_41 rfl rfl ?_
  refine r_dup hC dX7_addTank_42 rfl ?_
  refine r_getI hC 4 rfl (by decide) kf7_24 rfl rfl dX7_addTank_43 (fun b18 b18' => ?_)
  replace hw := hw _ rfl b18 b18'
  refine r_iconst hC dX7_addTank_46 ?_
  refine r_iadd hC dX7_addTank_47 ?_
  obtain ⟨o19, hw⟩ := hw
  refine r_putI hC 4 rfl (by decide) kf7_24 rfl rfl o19.1 o19.2 dX7_addTank_48 ?_
  replace hw := hw _ rfl
  refine r_aload_n hC dX7_addTank_51 rfl rfl ?_
  refine r_getI hC 4 rfl (by decide) kf7_24 rfl rfl dX7_addTank_52 (fun b22 b22' => ?_)
  replace hw := hw _ rfl b22 b22'
  refine r_iconst hC dX7_addTank_55 ?_
  refine r_isub hC dX7_addTank_56 ?_
  exact hQ _ _ _ _ dX7_addTank_57 hw
set_option maxRecDepth 100000 in
set_option maxHeartbeats 4000000 in
theorem d_Tanks_addTank {l : Launch} {D : va_G} {aC : Nat → ClassId} {ad : Nat → Nat} {M : Mem} {x1 : Int} {x2 : Int} {x3 : Int} {x4 : Int} {Q : Int → Mem → Prop} (hw : w_Tanks_addTank M x1 x2 x3 x4 Q) : Does l D aC ad yX7_addTank cX7_addTank 5 (some .int) 0 0 [vR 7, vI x1, vI x2, vI x3, vI x4] M (pI Q) :=
  Does.of (by decide) (Nat.le_of_ble_eq_true rfl) (fun p e R s m args below meth c hC => r_subk (s_Tanks_addTank hC (fun pc L z M d h => r_iret hC d ⟨z, rfl, h⟩) hw) ⟨rfl, rfl, rfl, rfl, rfl, trivial⟩)
theorem dd_7_addTank : yX7_addTank.cls ≠ "java/lang/invoke/MethodHandle" ∧ yX7_addTank.cls ≠ "java/lang/invoke/VarHandle" ∧ (parseMethodDescriptor yX7_addTank.desc).map (fun d => d.parameters.length) = some 4 := by decide +kernel
/-- SoupSand.tank -/
def w_S_tank (M : Mem) (x1 : Int) (x2 : Int) (x3 : Int) (x4 : Int) (Q : Int → Mem → Prop) : Prop :=
  w_Ground_hasLayer M x1 x2 (fun a1 => (-2147483648 ≤ a1 ∧ a1 ≤ 2147483647) ∧ ((¬ (a1 = 0) → w_S_beyond M x3 1 999 (fun a5 => (-2147483648 ≤ a5 ∧ a5 ≤ 2147483647) ∧ ((¬ (a5 = 0) → Q (-1002) M) ∧ (a5 = 0 → w_S_beyond M x4 1 99 (fun a9 => (-2147483648 ≤ a9 ∧ a9 ≤ 2147483647) ∧ ((a9 = 0 → ∀ a13 : Int, a13 = M 7 4 → 0 ≤ a13 → a13 ≤ 8 → (a13 < 8 → w_Tanks_addTank M x1 x2 x3 x4 (fun a18 M19 => Q a18 M19)) ∧ (¬ (a13 < 8) → Q (-1004) M)) ∧ (¬ (a9 = 0) → Q (-1002) M))))))) ∧ (a1 = 0 → Q (-1001) M)))
set_option maxRecDepth 100000 in
set_option maxHeartbeats 4000000 in
theorem s_S_tank {M : Mem} {x1 : Int} {x2 : Int} {x3 : Int} {x4 : Int} {Q : Int → Mem → Prop} (hC : rC p R s m args meth c cells slots D aC ad 5 cX11_tank RX11 2 43 (some .int)) (hQ : ∀ (pc : Nat) (L : List (Nat × RV)) (z : Int) (M : Mem), decode cX11_tank pc = .ok (.ireturn, 1) → Q z M → rG p l e R s m args below meth c cells slots Qs D aC ad 5 pc L [vI z] M) (hw : w_S_tank M x1 x2 x3 x4 Q) : rG p l e R s m args below meth c cells slots Qs D aC ad 5 0 [(0, vR 0), (1, vI x1), (2, vI x2), (3, vI x3), (4, vI x4)] [] M := by
  unfold w_S_tank at hw
  refine r_aload_n hC dX11_tank_0 rfl rfl ?_
  refine r_getR hC 1 rfl (by decide) kf11_20 rfl rfl dX11_tank_1 ?_
  refine r_iload_n hC dX11_tank_4 rfl rfl ?_
  refine r_iload_n hC dX11_tank_5 rfl rfl ?_
  refine r_callV hC (d_Ground_hasLayer hw) rfl kC0_hasLayer km11_107 kI0_hasLayer kS0_hasLayer kN0 dd_0_hasLayer ⟨Nat.le_of_ble_eq_true rfl, Nat.le_of_ble_eq_true rfl⟩ rfl (Nat.le_of_ble_eq_true rfl) dX11_tank_6 (fun r M' hp => ?_)
  obtain ⟨rfl, a1, rfl, hw⟩ := hp
  try dsimp only at hw
  obtain ⟨o2, hw⟩ := hw
  obtain ⟨hwt, hwf⟩ := hw
  refine r_if_ne hC 16 dX11_tank_9 (by decide) o2.1 o2.2 (fun c4 => ?_) (fun c4 => ?_)
  · have hw := hwt c4
    refine r_iload_n hC dX11_tank_16 rfl rfl ?_
    refine r_iconst hC dX11_tank_17 ?_
    refine r_sipush hC dX11_tank_18 (by decide) ?_
    refine r_callS hC (d_S_beyond hw) kC11_beyond km11_86 kT11_beyond kN11 dd_11_beyond ⟨Nat.le_of_ble_eq_true rfl, Nat.le_of_ble_eq_true rfl⟩ rfl (Nat.le_of_ble_eq_true rfl) dX11_tank_21 (fun r M' hp => ?_)
    obtain ⟨rfl, a5, rfl, hw⟩ := hp
    try dsimp only at hw
    obtain ⟨o6, hw⟩ := hw
    obtain ⟨hwt, hwf⟩ := hw
    refine r_if_ne hC 38 dX11_tank_24 (by decide) o6.1 o6.2 (fun c8 => ?_) (fun c8 => ?_)
    · have hw := hwt c8
      refine r_sipush hC dX11_tank_38 (by decide) ?_
      exact hQ _ _ _ _ dX11_tank_41 hw
    · have hw := hwf c8
      refine r_iload hC dX11_tank_27 rfl ?_
      refine r_iconst hC dX11_tank_29 ?_
      refine r_bipush hC dX11_tank_30 (by decide) ?_
      refine r_callS hC (d_S_beyond hw) kC11_beyond km11_86 kT11_beyond kN11 dd_11_beyond ⟨Nat.le_of_ble_eq_true rfl, Nat.le_of_ble_eq_true rfl⟩ rfl (Nat.le_of_ble_eq_true rfl) dX11_tank_32 (fun r M' hp => ?_)
      obtain ⟨rfl, a9, rfl, hw⟩ := hp
      try dsimp only at hw
      obtain ⟨o10, hw⟩ := hw
      obtain ⟨hwt, hwf⟩ := hw
      refine r_if_eq hC 42 dX11_tank_35 (by decide) o10.1 o10.2 (fun c12 => ?_) (fun c12 => ?_)
      · have hw := hwt c12
        refine r_aload_n hC dX11_tank_42 rfl rfl ?_
        refine r_getR hC 6 rfl (by decide) kf11_48 rfl rfl dX11_tank_43 ?_
        refine r_getI hC 4 rfl (by decide) kf11_170 rfl rfl dX11_tank_46 (fun b14 b14' => ?_)
        replace hw := hw _ rfl b14 b14'
        refine r_bipush hC dX11_tank_49 (by decide) ?_
        obtain ⟨hwt, hwf⟩ := hw
        refine r_icmp_lt hC 58 dX11_tank_51 (by decide) (by omega) (by omega) (by decide) (by decide) (fun c17 => ?_) (fun c17 => ?_)
        · have hw := hwt c17
          refine r_aload_n hC dX11_tank_58 rfl rfl ?_
          refine r_getR hC 6 rfl (by decide) kf11_48 rfl rfl dX11_tank_59 ?_
          refine r_iload_n hC dX11_tank_62 rfl rfl ?_
          refine r_iload_n hC dX11_tank_63 rfl rfl ?_
          refine r_iload_n hC dX11_tank_64 rfl rfl ?_
          refine r_iload hC dX11_tank_65 rfl ?_
          refine r_callV hC (d_Tanks_addTank hw) rfl kC7_addTank km11_312 kI7_addTank kS7_addTank kN7 dd_7_addTank ⟨Nat.le_of_ble_eq_true rfl, Nat.le_of_ble_eq_true rfl⟩ rfl (Nat.le_of_ble_eq_true rfl) dX11_tank_67 (fun r M' hp => ?_)
          obtain ⟨a18, rfl, hw⟩ := hp
          try dsimp only at hw
          exact hQ _ _ _ _ dX11_tank_70 hw
        · have hw := hwf c17
          refine r_sipush hC dX11_tank_54 (by decide) ?_
          exact hQ _ _ _ _ dX11_tank_57 hw
      · have hw := hwf c12
        refine r_sipush hC dX11_tank_38 (by decide) ?_
        exact hQ _ _ _ _ dX11_tank_41 hw
  · have hw := hwf c4
    refine r_sipush hC dX11_tank_12 (by decide) ?_
    exact hQ _ _ _ _ dX11_tank_15 hw
set_option maxRecDepth 100000 in
set_option maxHeartbeats 4000000 in
theorem d_S_tank {l : Launch} {D : va_G} {aC : Nat → ClassId} {ad : Nat → Nat} {M : Mem} {x1 : Int} {x2 : Int} {x3 : Int} {x4 : Int} {Q : Int → Mem → Prop} (hw : w_S_tank M x1 x2 x3 x4 Q) : Does l D aC ad yX11_tank cX11_tank 5 (some .int) 2 43 [vR 0, vI x1, vI x2, vI x3, vI x4] M (pI Q) :=
  Does.of (by decide) (Nat.le_of_ble_eq_true rfl) (fun p e R s m args below meth c hC => r_subk (s_S_tank hC (fun pc L z M d h => r_iret hC d ⟨z, rfl, h⟩) hw) ⟨rfl, rfl, rfl, rfl, rfl, trivial⟩)
/-- SoupSand$Tanks.hasTank -/
def w_Tanks_hasTank (M : Mem) (x1 : Int) (Q : Int → Prop) : Prop :=
  (-2147483648 ≤ x1 ∧ x1 ≤ 2147483647) ∧ ((x1 < 0 → Q 0) ∧ (¬ (x1 < 0) → ∀ a5 : Int, a5 = M 7 4 → 0 ≤ a5 → a5 ≤ 8 → (-2147483648 ≤ x1 ∧ x1 ≤ 2147483647) ∧ ((a5 ≤ x1 → Q 0) ∧ (¬ (a5 ≤ x1) → Q 1))))
set_option maxRecDepth 100000 in
set_option maxHeartbeats 4000000 in
theorem s_Tanks_hasTank {M : Mem} {x1 : Int} {Q : Int → Prop} (hC : rC p R s m args meth c cells slots D aC ad 2 cX7_hasTank RX7 0 0 (some .boolean)) (hQ : ∀ (pc : Nat) (L : List (Nat × RV)) (z : Int), decode cX7_hasTank pc = .ok (.ireturn, 1) → 0 ≤ z → z ≤ 1 → Q z → rG p l e R s m args below meth c cells slots Qs D aC ad 2 pc L [vI z] M) (hw : w_Tanks_hasTank M x1 Q) : rG p l e R s m args below meth c cells slots Qs D aC ad 2 0 [(0, vR 7), (1, vI x1)] [] M := by
  unfold w_Tanks_hasTank at hw
  refine r_iload_n hC dX7_hasTank_0 rfl rfl ?_
  obtain ⟨o1, hw⟩ := hw
  obtain ⟨hwt, hwf⟩ := hw
  refine r_if_lt hC 16 dX7_hasTank_1 (by decide) o1.1 o1.2 (fun c3 => ?_) (fun c3 => ?_)
  · have hw := hwt c3
    refine r_iconst hC dX7_hasTank_16 ?_
    exact hQ _ _ _ dX7_hasTank_17 (by decide) (by decide) hw
  · have hw := hwf c3
    refine r_iload_n hC dX7_hasTank_4 rfl rfl ?_
    refine r_aload_n hC dX7_hasTank_5 rfl rfl ?_
    refine r_getI hC 4 rfl (by decide) kf7_24 rfl rfl dX7_hasTank_6 (fun b6 b6' => ?_)
    replace hw := hw _ rfl b6 b6'
    obtain ⟨o7, hw⟩ := hw
    obtain ⟨hwt, hwf⟩ := hw
    refine r_icmp_ge hC 16 dX7_hasTank_9 (by decide) o7.1 o7.2 (by omega) (by omega) (fun c9 => ?_) (fun c9 => ?_)
    · have hw := hwt c9
      refine r_iconst hC dX7_hasTank_16 ?_
      exact hQ _ _ _ dX7_hasTank_17 (by decide) (by decide) hw
    · have hw := hwf c9
      refine r_iconst hC dX7_hasTank_12 ?_
      refine r_goto hC 17 dX7_hasTank_13 (by decide) ?_
      exact hQ _ _ _ dX7_hasTank_17 (by decide) (by decide) hw
set_option maxRecDepth 100000 in
set_option maxHeartbeats 4000000 in
theorem d_Tanks_hasTank {l : Launch} {D : va_G} {aC : Nat → ClassId} {ad : Nat → Nat} {M : Mem} {x1 : Int} {Q : Int → Prop} (hw : w_Tanks_hasTank M x1 Q) : Does l D aC ad yX7_hasTank cX7_hasTank 2 (some .boolean) 0 0 [vR 7, vI x1] M (qI M Q) :=
  Does.of (by decide) (Nat.le_of_ble_eq_true rfl) (fun p e R s m args below meth c hC => r_subk (s_Tanks_hasTank hC (fun pc L z d z1 z2 h => r_zret hC d z1 z2 ⟨rfl, ⟨z, rfl, h⟩⟩) hw) ⟨rfl, rfl, trivial⟩)
/-- SoupSand$Rules.dry -/
def w_Rules_dry (M : Mem) (Q : Int → Prop) : Prop :=
  ∀ a2 : Int, a2 = M 30 20 → 0 ≤ a2 → a2 ≤ 999 → Q a2
set_option maxRecDepth 100000 in
set_option maxHeartbeats 4000000 in
theorem s_Rules_dry {M : Mem} {Q : Int → Prop} (hC : rC p R s m args meth c cells slots D aC ad 1 cX3_dry RX3 0 0 (some .int)) (hQ : ∀ (pc : Nat) (L : List (Nat × RV)) (z : Int), decode cX3_dry pc = .ok (.ireturn, 1) → Q z → rG p l e R s m args below meth c cells slots Qs D aC ad 1 pc L [vI z] M) (hw : w_Rules_dry M Q) : rG p l e R s m args below meth c cells slots Qs D aC ad 1 0 [(0, vR 4)] [] M := by
  unfold w_Rules_dry at hw
  refine r_aload_n hC dX3_dry_0 rfl rfl ?_
  refine r_getR hC 0 rfl (by decide) kf3_9 rfl rfl dX3_dry_1 ?_
  refine r_bipush hC dX3_dry_4 (by decide) ?_
  refine r_iald hC rfl (by decide) (by decide) (by decide) (by decide) dX3_dry_6 (fun b3 b3' => ?_)
  replace hw := hw _ rfl b3 b3'
  exact hQ _ _ _ dX3_dry_7 hw
set_option maxRecDepth 100000 in
set_option maxHeartbeats 4000000 in
theorem d_Rules_dry {l : Launch} {D : va_G} {aC : Nat → ClassId} {ad : Nat → Nat} {M : Mem} {Q : Int → Prop} (hw : w_Rules_dry M Q) : Does l D aC ad yX3_dry cX3_dry 1 (some .int) 0 0 [vR 4] M (qI M Q) :=
  Does.of (by decide) (Nat.le_of_ble_eq_true rfl) (fun p e R s m args below meth c hC => r_subk (s_Rules_dry hC (fun pc L z d h => r_iret hC d ⟨rfl, ⟨z, rfl, h⟩⟩) hw) ⟨rfl, trivial⟩)
theorem dd_3_dry : yX3_dry.cls ≠ "java/lang/invoke/MethodHandle" ∧ yX3_dry.cls ≠ "java/lang/invoke/VarHandle" ∧ (parseMethodDescriptor yX3_dry.desc).map (fun d => d.parameters.length) = some 0 := by decide +kernel
theorem dd_7_hasTank : yX7_hasTank.cls ≠ "java/lang/invoke/MethodHandle" ∧ yX7_hasTank.cls ≠ "java/lang/invoke/VarHandle" ∧ (parseMethodDescriptor yX7_hasTank.desc).map (fun d => d.parameters.length) = some 1 := by decide +kernel
/-- SoupSand.floats -/
def w_S_floats (M : Mem) (x1 : Int) (x2 : Int) (Q : Int → Mem → Prop) : Prop :=
  w_Tanks_hasTank M x1 (fun a1 => (-2147483648 ≤ a1 ∧ a1 ≤ 2147483647) ∧ ((a1 = 0 → Q (-1001) M) ∧ (¬ (a1 = 0) → w_Shakes_hasShake M x2 (fun a5 => (-2147483648 ≤ a5 ∧ a5 ≤ 2147483647) ∧ ((¬ (a5 = 0) → (0 ≤ x1 ∧ x1 < 8) ∧ (∀ a10 : Int, a10 = M 41 x1 → 0 ≤ a10 → a10 ≤ 5 → (0 ≤ x1 ∧ x1 < 8) ∧ (∀ a13 : Int, a13 = M 42 x1 → 0 ≤ a13 → a13 ≤ 5 → w_S_surveyLayer M a10 x2 a13 (fun M16 => ∀ a17 : Int, a17 = M16 9 0 → 0 ≤ a17 → a17 ≤ 729 → (¬ (a17 = 0) → ∀ a22 : Int, a22 = M16 9 1 → 0 ≤ a22 → a22 ≤ 729 → (a22 = 0 → Q 0 M16) ∧ (¬ (a22 = 0) → (0 ≤ x1 ∧ x1 < 8) ∧ (∀ a28 : Int, a28 = M16 43 x1 → 0 ≤ a28 → a28 ≤ 999 → (0 ≤ x1 ∧ x1 < 8) ∧ (∀ a31 : Int, a31 = M16 44 x1 → 0 ≤ a31 → a31 ≤ 99 → w_Rules_dry M16 (fun a33 => (-2147483648 ≤ a31 * a33 ∧ a31 * a33 ≤ 2147483647) ∧ ((a28 < a31 * a33 → ∀ a37 : Int, a37 = M16 9 1 → 0 ≤ a37 → a37 ≤ 729 → ∀ a39 : Int, a39 = M16 9 0 → 0 ≤ a39 → a39 ≤ 729 → (a39 ≤ a37 → Q 2 M16) ∧ (¬ (a39 ≤ a37) → Q 1 M16)) ∧ (¬ (a28 < a31 * a33) → Q 0 M16))))))) ∧ (a17 = 0 → Q (-1005) M16))))) ∧ (a5 = 0 → Q (-1001) M))))))
set_option maxRecDepth 100000 in
set_option maxHeartbeats 4000000 in
theorem s_S_floats {M : Mem} {x1 : Int} {x2 : Int} {Q : Int → Mem → Prop} (hC : rC p R s m args meth c cells slots D aC ad 3 cX11_floats RX11 6 146 (some .int)) (hQ : ∀ (pc : Nat) (L : List (Nat × RV)) (z : Int) (M : Mem), decode cX11_floats pc = .ok (.ireturn, 1) → Q z M → rG p l e R s m args below meth c cells slots Qs D aC ad 3 pc L [vI z] M) (hw : w_S_floats M x1 x2 Q) : rG p l e R s m args below meth c cells slots Qs D aC ad 3 0 [(0, vR 0), (1, vI x1), (2, vI x2)] [] M := by
  unfold w_S_floats at hw
  refine r_aload_n hC dX11_floats_0 rfl rfl ?_
  refine r_getR hC 6 rfl (by decide) kf11_48 rfl rfl dX11_floats_1 ?_
  refine r_iload_n hC dX11_floats_4 rfl rfl ?_
  refine r_callV hC (d_Tanks_hasTank hw) rfl kC7_hasTank km11_315 kI7_hasTank kS7_hasTank kN7 dd_7_hasTank ⟨Nat.le_of_ble_eq_true rfl, Nat.le_of_ble_eq_true rfl⟩ rfl (Nat.le_of_ble_eq_true rfl) dX11_floats_5 (fun r M' hp => ?_)
  obtain ⟨rfl, a1, rfl, hw⟩ := hp
  try dsimp only at hw
  obtain ⟨o2, hw⟩ := hw
  obtain ⟨hwt, hwf⟩ := hw
  refine r_if_eq hC 22 dX11_floats_8 (by decide) o2.1 o2.2 (fun c4 => ?_) (fun c4 => ?_)
  · have hw := hwt c4
    refine r_sipush hC dX11_floats_22 (by decide) ?_
    exact hQ _ _ _ _ dX11_floats_25 hw
  · have hw := hwf c4
    refine r_aload_n hC dX11_floats_11 rfl rfl ?_
    refine r_getR hC 2 rfl (by decide) kf11_25 rfl rfl dX11_floats_12 ?_
    refine r_iload_n hC dX11_floats_15 rfl rfl ?_
    refine r_callV hC (d_Shakes_hasShake hw) rfl kC4_hasShake km11_147 kI4_hasShake kS4_hasShake kN4 dd_4_hasShake ⟨Nat.le_of_ble_eq_true rfl, Nat.le_of_ble_eq_true rfl⟩ rfl (Nat.le_of_ble_eq_true rfl) dX11_floats_16 (fun r M' hp => ?_)
    obtain ⟨rfl, a5, rfl, hw⟩ := hp
    try dsimp only at hw
    obtain ⟨o6, hw⟩ := hw
    obtain ⟨hwt, hwf⟩ := hw
    refine r_if_ne hC 26 dX11_floats_19 (by decide) o6.1 o6.2 (fun c8 => ?_) (fun c8 => ?_)
    · have hw := hwt c8
      refine r_aload_n hC dX11_floats_26 rfl rfl ?_
      refine r_aload_n hC dX11_floats_27 rfl rfl ?_
      refine r_getR hC 6 rfl (by decide) kf11_48 rfl rfl dX11_floats_28 ?_
      refine r_getR hC 0 rfl (by decide) kf11_318 rfl rfl dX11_floats_31 ?_
      refine r_iload_n hC dX11_floats_34 rfl rfl ?_
      obtain ⟨o9, hw⟩ := hw
      refine r_iald hC rfl o9.1 o9.2 (by decide) (by decide) dX11_floats_35 (fun b11 b11' => ?_)
      replace hw := hw _ rfl b11 b11'
      refine r_iload_n hC dX11_floats_36 rfl rfl ?_
      refine r_aload_n hC dX11_floats_37 rfl rfl ?_
      refine r_getR hC 6 rfl (by decide) kf11_48 rfl rfl dX11_floats_38 ?_
      refine r_getR hC 1 rfl (by decide) kf11_319 rfl rfl dX11_floats_41 ?_
      refine r_iload_n hC dX11_floats_44 rfl rfl ?_
      obtain ⟨o12, hw⟩ := hw
      refine r_iald hC rfl o12.1 o12.2 (by decide) (by decide) dX11_floats_45 (fun b14 b14' => ?_)
      replace hw := hw _ rfl b14 b14'
      refine r_callV hC (d_S_surveyLayer hw) rfl kC11_surveyLayer km11_226 kI11_surveyLayer kS11_surveyLayer kN11 dd_11_surveyLayer ⟨Nat.le_of_ble_eq_true rfl, Nat.le_of_ble_eq_true rfl⟩ rfl (Nat.le_of_ble_eq_true rfl) dX11_floats_46 (fun r M' hp => ?_)
      obtain ⟨rfl, hw⟩ := hp
      try dsimp only at hw
      refine r_aload_n hC dX11_floats_49 rfl rfl ?_
      refine r_getR hC 8 rfl (by decide) kf11_62 rfl rfl dX11_floats_50 ?_
      refine r_getI hC 0 rfl (by decide) kf11_230 rfl rfl dX11_floats_53 (fun b18 b18' => ?_)
      replace hw := hw _ rfl b18 b18'
      obtain ⟨hwt, hwf⟩ := hw
      refine r_if_ne hC 63 dX11_floats_56 (by decide) (by omega) (by omega) (fun c21 => ?_) (fun c21 => ?_)
      · have hw := hwt c21
        refine r_aload_n hC dX11_floats_63 rfl rfl ?_
        refine r_getR hC 8 rfl (by decide) kf11_62 rfl rfl dX11_floats_64 ?_
        refine r_getI hC 1 rfl (by decide) kf11_239 rfl rfl dX11_floats_67 (fun b23 b23' => ?_)
        replace hw := hw _ rfl b23 b23'
        obtain ⟨hwt, hwf⟩ := hw
        refine r_if_eq hC 102 dX11_floats_70 (by decide) (by omega) (by omega) (fun c26 => ?_) (fun c26 => ?_)
        · have hw := hwt c26
          refine r_iconst hC dX11_floats_102 ?_
          exact hQ _ _ _ _ dX11_floats_103 hw
        · have hw := hwf c26
          refine r_aload_n hC dX11_floats_73 rfl rfl ?_
          refine r_getR hC 6 rfl (by decide) kf11_48 rfl rfl dX11_floats_74 ?_
          refine r_getR hC 2 rfl (by decide) kf11_322 rfl rfl dX11_floats_77 ?_
          refine r_iload_n hC dX11_floats_80 rfl rfl ?_
          obtain ⟨o27, hw⟩ := hw
          refine r_iald hC rfl o27.1 o27.2 (by decide) (by decide) dX11_floats_81 (fun b29 b29' => ?_)
          replace hw := hw _ rfl b29 b29'
          refine r_aload_n hC dX11_floats_82 rfl rfl ?_
          refine r_getR hC 6 rfl (by decide) kf11_48 rfl rfl dX11_floats_83 ?_
          refine r_getR hC 3 rfl (by decide) kf11_325 rfl rfl dX11_floats_86 ?_
          refine r_iload_n hC dX11_floats_89 rfl rfl ?_
          obtain ⟨o30, hw⟩ := hw
          refine r_iald hC rfl o30.1 o30.2 (by decide) (by decide) dX11_floats_90 (fun b32 b32' => ?_)
          replace hw := hw _ rfl b32 b32'
          refine r_aload_n hC dX11_floats_91 rfl rfl ?_
          refine r_getR hC 3 rfl (by decide) kf11_30 rfl rfl dX11_floats_92 ?_
          refine r_callV hC (d_Rules_dry hw) rfl kC3_dry km11_328 kI3_dry kS3_dry kN3 dd_3_dry ⟨Nat.le_of_ble_eq_true rfl, Nat.le_of_ble_eq_true rfl⟩ rfl (Nat.le_of_ble_eq_true rfl) dX11_floats_95 (fun r M' hp => ?_)
          obtain ⟨rfl, a33, rfl, hw⟩ := hp
          try dsimp only at hw
          refine r_imul hC dX11_floats_98 ?_
          obtain ⟨o35, hw⟩ := hw
          obtain ⟨hwt, hwf⟩ := hw
          refine r_icmp_lt hC 104 dX11_floats_99 (by decide) (by omega) (by omega) o35.1 o35.2 (fun c36 => ?_) (fun c36 => ?_)
          · have hw := hwt c36
            refine r_aload_n hC dX11_floats_104 rfl rfl ?_
            refine r_getR hC 8 rfl (by decide) kf11_62 rfl rfl dX11_floats_105 ?_
            refine r_getI hC 1 rfl (by decide) kf11_239 rfl rfl dX11_floats_108 (fun b38 b38' => ?_)
            replace hw := hw _ rfl b38 b38'
            refine r_aload_n hC dX11_floats_111 rfl rfl ?_
            refine r_getR hC 8 rfl (by decide) kf11_62 rfl rfl dX11_floats_112 ?_
            refine r_getI hC 0 rfl (by decide) kf11_230 rfl rfl dX11_floats_115 (fun b40 b40' => ?_)
            replace hw := hw _ rfl b40 b40'
            obtain ⟨hwt, hwf⟩ := hw
            refine r_icmp_ge hC 125 dX11_floats_118 (by decide) (by omega) (by omega) (by omega) (by omega) (fun c43 => ?_) (fun c43 => ?_)
            · have hw := hwt c43
              refine r_iconst hC dX11_floats_125 ?_
              exact hQ _ _ _ _ dX11_floats_126 hw
            · have hw := hwf c43
              refine r_iconst hC dX11_floats_121 ?_
              refine r_goto hC 126 dX11_floats_122 (by decide) ?_
              exact hQ _ _ _ _ dX11_floats_126 hw
          · have hw := hwf c36
            refine r_iconst hC dX11_floats_102 ?_
            exact hQ _ _ _ _ dX11_floats_103 hw
      · have hw := hwf c21
        refine r_sipush hC dX11_floats_59 (by decide) ?_
        exact hQ _ _ _ _ dX11_floats_62 hw
    · have hw := hwf c8
      refine r_sipush hC dX11_floats_22 (by decide) ?_
      exact hQ _ _ _ _ dX11_floats_25 hw
set_option maxRecDepth 100000 in
set_option maxHeartbeats 4000000 in
theorem d_S_floats {l : Launch} {D : va_G} {aC : Nat → ClassId} {ad : Nat → Nat} {M : Mem} {x1 : Int} {x2 : Int} {Q : Int → Mem → Prop} (hw : w_S_floats M x1 x2 Q) : Does l D aC ad yX11_floats cX11_floats 3 (some .int) 6 146 [vR 0, vI x1, vI x2] M (pI Q) :=
  Does.of (by decide) (Nat.le_of_ble_eq_true rfl) (fun p e R s m args below meth c hC => r_subk (s_S_floats hC (fun pc L z M d h => r_iret hC d ⟨z, rfl, h⟩) hw) ⟨rfl, rfl, rfl, trivial⟩)
/-- SoupSand$Ground.middleOf -/
def w_Ground_middleOf (M : Mem) (x1 : Int) (x2 : Int) (Q : Int → Prop) : Prop :=
  (0 ≤ x1 ∧ x1 < 6) ∧ (∀ a2 : Int, a2 = M 19 x1 → 0 ≤ a2 → a2 ≤ 999 → w_Ground_depthOf M x1 x2 (fun a4 => (0 ≤ (x1 * 6) + x2 ∧ (x1 * 6) + x2 < 36) ∧ (∀ a6 : Int, a6 = M 23 ((x1 * 6) + x2) → 0 ≤ a6 → a6 ≤ 60 → Q ((a2 - a4) - (a6 / 2)))))
set_option maxRecDepth 100000 in
set_option maxHeartbeats 4000000 in
theorem s_Ground_middleOf {M : Mem} {x1 : Int} {x2 : Int} {Q : Int → Prop} (hC : rC p R s m args meth c cells slots D aC ad 3 cX0_middleOf RX0 1 24 (some .int)) (hQ : ∀ (pc : Nat) (L : List (Nat × RV)) (z : Int), decode cX0_middleOf pc = .ok (.ireturn, 1) → Q z → rG p l e R s m args below meth c cells slots Qs D aC ad 3 pc L [vI z] M) (hw : w_Ground_middleOf M x1 x2 Q) : rG p l e R s m args below meth c cells slots Qs D aC ad 3 0 [(0, vR 2), (1, vI x1), (2, vI x2)] [] M := by
  unfold w_Ground_middleOf at hw
  refine r_aload_n hC dX0_middleOf_0 rfl rfl ?_
  refine r_getR hC 0 rfl (by decide) kf0_9 rfl rfl dX0_middleOf_1 ?_
  refine r_iload_n hC dX0_middleOf_4 rfl rfl ?_
  obtain ⟨o1, hw⟩ := hw
  refine r_iald hC rfl o1.1 o1.2 (by decide) (by decide) dX0_middleOf_5 (fun b3 b3' => ?_)
  replace hw := hw _ rfl b3 b3'
  refine r_aload_n hC dX0_middleOf_6 rfl rfl ?_
  refine r_iload_n hC dX0_middleOf_7 rfl rfl ?_
  refine r_iload_n hC dX0_middleOf_8 rfl rfl ?_
  refine r_callV hC (d_Ground_depthOf hw) rfl kC0_depthOf km0_44 kI0_depthOf kS0_depthOf kN0 dd_0_depthOf ⟨Nat.le_of_ble_eq_true rfl, Nat.le_of_ble_eq_true rfl⟩ rfl (Nat.le_of_ble_eq_true rfl) dX0_middleOf_9 (fun r M' hp => ?_)
  obtain ⟨rfl, a4, rfl, hw⟩ := hp
  try dsimp only at hw
  refine r_isub hC dX0_middleOf_12 ?_
  refine r_aload_n hC dX0_middleOf_13 rfl rfl ?_
  refine r_getR hC 4 rfl (by decide) kf0_24 rfl rfl dX0_middleOf_14 ?_
  refine r_iload_n hC dX0_middleOf_17 rfl rfl ?_
  refine r_bipush hC dX0_middleOf_18 (by decide) ?_
  refine r_imul hC dX0_middleOf_20 ?_
  refine r_iload_n hC dX0_middleOf_21 rfl rfl ?_
  refine r_iadd hC dX0_middleOf_22 ?_
  obtain ⟨o5, hw⟩ := hw
  refine r_iald hC rfl o5.1 o5.2 (by decide) (by decide) dX0_middleOf_23 (fun b7 b7' => ?_)
  replace hw := hw _ rfl b7 b7'
  refine r_iconst hC dX0_middleOf_24 ?_
  refine r_idiv hC dX0_middleOf_25 (by omega) (by omega) (by decide) (by decide) ?_
  refine r_isub hC dX0_middleOf_26 ?_
  exact hQ _ _ _ dX0_middleOf_27 hw
set_option maxRecDepth 100000 in
set_option maxHeartbeats 4000000 in
theorem d_Ground_middleOf {l : Launch} {D : va_G} {aC : Nat → ClassId} {ad : Nat → Nat} {M : Mem} {x1 : Int} {x2 : Int} {Q : Int → Prop} (hw : w_Ground_middleOf M x1 x2 Q) : Does l D aC ad yX0_middleOf cX0_middleOf 3 (some .int) 1 24 [vR 2, vI x1, vI x2] M (qI M Q) :=
  Does.of (by decide) (Nat.le_of_ble_eq_true rfl) (fun p e R s m args below meth c hC => r_subk (s_Ground_middleOf hC (fun pc L z d h => r_iret hC d ⟨rfl, ⟨z, rfl, h⟩⟩) hw) ⟨rfl, rfl, rfl, trivial⟩)
/-- SoupSand$Trial.gripOf -/
def w_Trial_gripOf (M : Mem) (x1 : Int) (Q : Int → Prop) : Prop :=
  (0 ≤ x1 ∧ x1 < 6) ∧ (∀ a2 : Int, a2 = M 15 x1 → -1 ≤ a2 → a2 ≤ 59 → (a2 = (-1) → (0 ≤ x1 ∧ x1 < 6) ∧ (∀ a8 : Int, a8 = M 16 x1 → 0 ≤ a8 → a8 ≤ 1000000 → (0 ≤ x1 ∧ x1 < 6) ∧ (∀ a11 : Int, a11 = M 14 x1 → 0 ≤ a11 → a11 ≤ 20000000 → (0 ≤ a8 * (1000 - a11) ∧ a8 * (1000 - a11) ≤ 2147483647) ∧ (w_Trial_ruleOf M x1 4 (fun a14 => (0 ≤ ((a8 * (1000 - a11)) / 1000) * a14 ∧ ((a8 * (1000 - a11)) / 1000) * a14 ≤ 2147483647) ∧ (Q ((((a8 * (1000 - a11)) / 1000) * a14) / 100))))))) ∧ (¬ (a2 = (-1)) → Q 0))
set_option maxRecDepth 100000 in
set_option maxHeartbeats 4000000 in
theorem s_Trial_gripOf {M : Mem} {x1 : Int} {Q : Int → Prop} (hC : rC p R s m args meth c cells slots D aC ad 2 cX8_gripOf RX8 1 22 (some .int)) (hQ : ∀ (pc : Nat) (L : List (Nat × RV)) (z : Int), decode cX8_gripOf pc = .ok (.ireturn, 1) → Q z → rG p l e R s m args below meth c cells slots Qs D aC ad 2 pc L [vI z] M) (hw : w_Trial_gripOf M x1 Q) : rG p l e R s m args below meth c cells slots Qs D aC ad 2 0 [(0, vR 1), (1, vI x1)] [] M := by
  unfold w_Trial_gripOf at hw
  refine r_aload_n hC dX8_gripOf_0 rfl rfl ?_
  refine r_getR hC 5 rfl (by decide) kf8_39 rfl rfl dX8_gripOf_1 ?_
  refine r_iload_n hC dX8_gripOf_4 rfl rfl ?_
  obtain ⟨o1, hw⟩ := hw
  refine r_iald hC rfl o1.1 o1.2 (by decide) (by decide) dX8_gripOf_5 (fun b3 b3' => ?_)
  replace hw := hw _ rfl b3 b3'
  refine r_iconst hC dX8_gripOf_6 ?_
  obtain ⟨hwt, hwf⟩ := hw
  refine r_icmp_eq hC 12 dX8_gripOf_7 (by decide) (by omega) (by omega) (by decide) (by decide) (fun c6 => ?_) (fun c6 => ?_)
  · have hw := hwt c6
    refine r_aload_n hC dX8_gripOf_12 rfl rfl ?_
    refine r_getR hC 6 rfl (by decide) kf8_42 rfl rfl dX8_gripOf_13 ?_
    refine r_iload_n hC dX8_gripOf_16 rfl rfl ?_
    obtain ⟨o7, hw⟩ := hw
    refine r_iald hC rfl o7.1 o7.2 (by decide) (by decide) dX8_gripOf_17 (fun b9 b9' => ?_)
    replace hw := hw _ rfl b9 b9'
    refine r_sipush hC dX8_gripOf_18 (by decide) ?_
    refine r_aload_n hC dX8_gripOf_21 rfl rfl ?_
    refine r_getR hC 4 rfl (by decide) kf8_36 rfl rfl dX8_gripOf_22 ?_
    refine r_iload_n hC dX8_gripOf_25 rfl rfl ?_
    obtain ⟨o10, hw⟩ := hw
    refine r_iald hC rfl o10.1 o10.2 (by decide) (by decide) dX8_gripOf_26 (fun b12 b12' => ?_)
    replace hw := hw _ rfl b12 b12'
    refine r_isub hC dX8_gripOf_27 ?_
    refine r_imul hC dX8_gripOf_28 ?_
    refine r_sipush hC dX8_gripOf_29 (by decide) ?_
    obtain ⟨o13, hw⟩ := hw
    refine r_idiv hC dX8_gripOf_32 o13.1 o13.2 (by decide) (by decide) ?_
    refine r_aload_n hC dX8_gripOf_33 rfl rfl ?_
    refine r_iload_n hC dX8_gripOf_34 rfl rfl ?_
    refine r_iconst hC dX8_gripOf_35 ?_
    refine r_callV hC (d_Trial_ruleOf hw) rfl kC8_ruleOf km8_136 kI8_ruleOf kS8_ruleOf kN8 dd_8_ruleOf ⟨Nat.le_of_ble_eq_true rfl, Nat.le_of_ble_eq_true rfl⟩ rfl (Nat.le_of_ble_eq_true rfl) dX8_gripOf_36 (fun r M' hp => ?_)
    obtain ⟨rfl, a14, rfl, hw⟩ := hp
    try dsimp only at hw
    refine r_imul hC dX8_gripOf_39 ?_
    refine r_bipush hC dX8_gripOf_40 (by decide) ?_
    obtain ⟨o15, hw⟩ := hw
    refine r_idiv hC dX8_gripOf_42 o15.1 o15.2 (by decide) (by decide) ?_
    exact hQ _ _ _ dX8_gripOf_43 hw
  · have hw := hwf c6
    refine r_iconst hC dX8_gripOf_10 ?_
    exact hQ _ _ _ dX8_gripOf_11 hw
set_option maxRecDepth 100000 in
set_option maxHeartbeats 4000000 in
theorem d_Trial_gripOf {l : Launch} {D : va_G} {aC : Nat → ClassId} {ad : Nat → Nat} {M : Mem} {x1 : Int} {Q : Int → Prop} (hw : w_Trial_gripOf M x1 Q) : Does l D aC ad yX8_gripOf cX8_gripOf 2 (some .int) 1 22 [vR 1, vI x1] M (qI M Q) :=
  Does.of (by decide) (Nat.le_of_ble_eq_true rfl) (fun p e R s m args below meth c hC => r_subk (s_Trial_gripOf hC (fun pc L z d h => r_iret hC d ⟨rfl, ⟨z, rfl, h⟩⟩) hw) ⟨rfl, rfl, trivial⟩)
theorem dd_8_gripOf : yX8_gripOf.cls ≠ "java/lang/invoke/MethodHandle" ∧ yX8_gripOf.cls ≠ "java/lang/invoke/VarHandle" ∧ (parseMethodDescriptor yX8_gripOf.desc).map (fun d => d.parameters.length) = some 1 := by decide +kernel
/-- SoupSand$Slips.begin -/
def w_Slips_begin_B1 (Q : Mem → Prop) (X3 : Int → Mem → Prop) (x2 : Int) (x4 : Int) (x5 : Int) (X20 : Int → Mem → Prop) (x6 : Int) (M : Mem) : Prop :=
  (0 ≤ x5 ∧ x5 < 6) ∧ (∀ a2 : Int, a2 = M 21 x5 → 0 ≤ a2 → a2 ≤ 6 → (-2147483648 ≤ x6 ∧ x6 ≤ 2147483647) ∧ ((a2 ≤ x6 → X3 (x5 + 1) M) ∧ (¬ (a2 ≤ x6) → w_Trial_gripOf M x6 (fun a7 => ((0 ≤ (x5 * 6) + x6 ∧ (x5 * 6) + x6 < 36) ∧ (0 ≤ a7 ∧ a7 ≤ 2000000000)) ∧ (∀ M9 : Mem, M9 = mset M 50 ((x5 * 6) + x6) a7 → X20 (x6 + 1) M9)))))
set_option maxRecDepth 100000 in
set_option maxHeartbeats 4000000 in
theorem s_Slips_begin_B1 {Q : Mem → Prop} {X3 : Int → Mem → Prop} {x2 : Int} {x4 : Int} {x5 : Int} {X20 : Int → Mem → Prop} {x6 : Int} {M : Mem} (hC : rC p R s m args meth c cells slots D aC ad 7 cX5_begin RX5 4 95 none) (hQ : ∀ (pc : Nat) (L : List (Nat × RV)) (M : Mem), decode cX5_begin pc = .ok (.return_, 1) → Q M → rG p l e R s m args below meth c cells slots Qs D aC ad 7 pc L [] M) (hX3 : ∀ (x5 : Int) (M : Mem), X3 x5 M → rG p l e R s m args below meth c cells slots Qs D aC ad 7 3 [(0, vR 10), (1, vR 1), (2, vI x2), (4, vI x4), (5, vI x5)] [] M) (hX20 : ∀ (x6 : Int) (M : Mem), X20 x6 M → rG p l e R s m args below meth c cells slots Qs D aC ad 7 20 [(0, vR 10), (1, vR 1), (2, vI x2), (4, vI x4), (5, vI x5), (6, vI x6)] [] M) (hw : w_Slips_begin_B1 Q X3 x2 x4 x5 X20 x6 M) : rG p l e R s m args below meth c cells slots Qs D aC ad 7 20 [(0, vR 10), (1, vR 1), (2, vI x2), (4, vI x4), (5, vI x5), (6, vI x6)] [] M := by
  unfold w_Slips_begin_B1 at hw
  refine r_iload hC dX5_begin_20 rfl ?_
  refine r_aload_n hC dX5_begin_22 rfl rfl ?_
  refine r_getR hC 0 rfl (by decide) kf5_21 rfl rfl dX5_begin_23 ?_
  refine r_getR hC 2 rfl (by decide) kf5_25 rfl rfl dX5_begin_26 ?_
  refine r_iload hC dX5_begin_29 rfl ?_
  obtain ⟨o1, hw⟩ := hw
  refine r_iald hC rfl o1.1 o1.2 (by decide) (by decide) dX5_begin_31 (fun b3 b3' => ?_)
  replace hw := hw _ rfl b3 b3'
  obtain ⟨o4, hw⟩ := hw
  obtain ⟨hwt, hwf⟩ := hw
  refine r_icmp_ge hC 60 dX5_begin_32 (by decide) o4.1 o4.2 (by omega) (by omega) (fun c6 => ?_) (fun c6 => ?_)
  · have hw := hwt c6
    refine r_iinc hC dX5_begin_60 rfl (by decide) ?_
    refine r_goto hC 3 dX5_begin_63 (by decide) ?_
    exact r_subk (hX3 _ _ hw) ⟨rfl, rfl, rfl, rfl, rfl, trivial⟩
  · have hw := hwf c6
    refine r_aload_n hC dX5_begin_35 rfl rfl ?_
    refine r_getR hC 0 rfl (by decide) kf5_9 rfl rfl dX5_begin_36 ?_
    refine r_iload hC dX5_begin_39 rfl ?_
    refine r_bipush hC dX5_begin_41 (by decide) ?_
    refine r_imul hC dX5_begin_43 ?_
    refine r_iload hC dX5_begin_44 rfl ?_
    refine r_iadd hC dX5_begin_46 ?_
    refine r_aload_n hC dX5_begin_47 rfl rfl ?_
    refine r_iload hC dX5_begin_48 rfl ?_
    refine r_callV hC (d_Trial_gripOf hw) rfl kC8_gripOf km5_30 kI8_gripOf kS8_gripOf kN8 dd_8_gripOf ⟨Nat.le_of_ble_eq_true rfl, Nat.le_of_ble_eq_true rfl⟩ rfl (Nat.le_of_ble_eq_true rfl) dX5_begin_50 (fun r M' hp => ?_)
    obtain ⟨rfl, a7, rfl, hw⟩ := hp
    try dsimp only at hw
    obtain ⟨o8, hw⟩ := hw
    refine r_iast hC rfl o8.1.1 o8.1.2 (by decide) (by decide) o8.2.1 o8.2.2 dX5_begin_53 ?_
    replace hw := hw _ rfl
    refine r_iinc hC dX5_begin_54 rfl (by decide) ?_
    refine r_goto hC 20 dX5_begin_57 (by decide) ?_
    exact r_subk (hX20 _ _ hw) ⟨rfl, rfl, rfl, rfl, rfl, rfl, trivial⟩
def w_Slips_begin_L1 (Q : Mem → Prop) (X3 : Int → Mem → Prop) (x2 : Int) (x4 : Int) (x5 : Int) (x6 : Int) (M : Mem) : Prop :=
  ∀ X : Int → Mem → Prop, (∀ (x6 : Int) (M : Mem), w_Slips_begin_B1 Q X3 x2 x4 x5 X x6 M → X x6 M) → X x6 M
set_option maxRecDepth 100000 in
set_option maxHeartbeats 4000000 in
theorem s_Slips_begin_L1 {Q : Mem → Prop} {X3 : Int → Mem → Prop} {x2 : Int} {x4 : Int} {x5 : Int} {x6 : Int} {M : Mem} (hC : rC p R s m args meth c cells slots D aC ad 7 cX5_begin RX5 4 95 none) (hQ : ∀ (pc : Nat) (L : List (Nat × RV)) (M : Mem), decode cX5_begin pc = .ok (.return_, 1) → Q M → rG p l e R s m args below meth c cells slots Qs D aC ad 7 pc L [] M) (hX3 : ∀ (x5 : Int) (M : Mem), X3 x5 M → rG p l e R s m args below meth c cells slots Qs D aC ad 7 3 [(0, vR 10), (1, vR 1), (2, vI x2), (4, vI x4), (5, vI x5)] [] M) (hw : w_Slips_begin_L1 Q X3 x2 x4 x5 x6 M) : rG p l e R s m args below meth c cells slots Qs D aC ad 7 20 [(0, vR 10), (1, vR 1), (2, vI x2), (4, vI x4), (5, vI x5), (6, vI x6)] [] M := by
  unfold w_Slips_begin_L1 at hw
  exact hw (fun x6 M => rG p l e R s m args below meth c cells slots Qs D aC ad 7 20 [(0, vR 10), (1, vR 1), (2, vI x2), (4, vI x4), (5, vI x5), (6, vI x6)] [] M) (fun x6 M hb => s_Slips_begin_B1 hC hQ hX3 (fun _ _ h => h) hb)
def w_Slips_begin_B0 (Q : Mem → Prop) (x2 : Int) (x4 : Int) (X3 : Int → Mem → Prop) (x5 : Int) (M : Mem) : Prop :=
  (-2147483648 ≤ x5 ∧ x5 ≤ 2147483647) ∧ ((-2147483648 ≤ x4 ∧ x4 ≤ 2147483647) ∧ ((x4 < x5 → Q M) ∧ (¬ (x4 < x5) → w_Trial_runFirst M x5 x2 (fun M5 => w_Slips_begin_L1 Q X3 x2 x4 x5 0 M5))))
set_option maxRecDepth 100000 in
set_option maxHeartbeats 4000000 in
theorem s_Slips_begin_B0 {Q : Mem → Prop} {x2 : Int} {x4 : Int} {X3 : Int → Mem → Prop} {x5 : Int} {M : Mem} (hC : rC p R s m args meth c cells slots D aC ad 7 cX5_begin RX5 4 95 none) (hQ : ∀ (pc : Nat) (L : List (Nat × RV)) (M : Mem), decode cX5_begin pc = .ok (.return_, 1) → Q M → rG p l e R s m args below meth c cells slots Qs D aC ad 7 pc L [] M) (hX3 : ∀ (x5 : Int) (M : Mem), X3 x5 M → rG p l e R s m args below meth c cells slots Qs D aC ad 7 3 [(0, vR 10), (1, vR 1), (2, vI x2), (4, vI x4), (5, vI x5)] [] M) (hw : w_Slips_begin_B0 Q x2 x4 X3 x5 M) : rG p l e R s m args below meth c cells slots Qs D aC ad 7 3 [(0, vR 10), (1, vR 1), (2, vI x2), (4, vI x4), (5, vI x5)] [] M := by
  unfold w_Slips_begin_B0 at hw
  refine r_iload hC dX5_begin_3 rfl ?_
  refine r_iload hC dX5_begin_5 rfl ?_
  obtain ⟨o1, hw⟩ := hw
  obtain ⟨o2, hw⟩ := hw
  obtain ⟨hwt, hwf⟩ := hw
  refine r_icmp_gt hC 66 dX5_begin_7 (by decide) o1.1 o1.2 o2.1 o2.2 (fun c3 => ?_) (fun c3 => ?_)
  · have hw := hwt c3
    exact hQ _ _ _ dX5_begin_66 hw
  · have hw := hwf c3
    refine r_aload_n hC dX5_begin_10 rfl rfl ?_
    refine r_iload hC dX5_begin_11 rfl ?_
    refine r_iload_n hC dX5_begin_13 rfl rfl ?_
    refine r_callV hC (d_Trial_runFirst hw) rfl kC8_runFirst km5_15 kI8_runFirst kS8_runFirst kN8 dd_8_runFirst ⟨Nat.le_of_ble_eq_true rfl, Nat.le_of_ble_eq_true rfl⟩ rfl (Nat.le_of_ble_eq_true rfl) dX5_begin_14 (fun r M' hp => ?_)
    obtain ⟨rfl, hw⟩ := hp
    try dsimp only at hw
    refine r_iconst hC dX5_begin_17 ?_
    refine r_istore hC dX5_begin_18 (by decide) ?_
    exact r_subk (s_Slips_begin_L1 hC hQ hX3 hw) ⟨rfl, rfl, rfl, rfl, rfl, rfl, trivial⟩
def w_Slips_begin_L0 (Q : Mem → Prop) (x2 : Int) (x4 : Int) (x5 : Int) (M : Mem) : Prop :=
  ∀ X : Int → Mem → Prop, (∀ (x5 : Int) (M : Mem), w_Slips_begin_B0 Q x2 x4 X x5 M → X x5 M) → X x5 M
set_option maxRecDepth 100000 in
set_option maxHeartbeats 4000000 in
theorem s_Slips_begin_L0 {Q : Mem → Prop} {x2 : Int} {x4 : Int} {x5 : Int} {M : Mem} (hC : rC p R s m args meth c cells slots D aC ad 7 cX5_begin RX5 4 95 none) (hQ : ∀ (pc : Nat) (L : List (Nat × RV)) (M : Mem), decode cX5_begin pc = .ok (.return_, 1) → Q M → rG p l e R s m args below meth c cells slots Qs D aC ad 7 pc L [] M) (hw : w_Slips_begin_L0 Q x2 x4 x5 M) : rG p l e R s m args below meth c cells slots Qs D aC ad 7 3 [(0, vR 10), (1, vR 1), (2, vI x2), (4, vI x4), (5, vI x5)] [] M := by
  unfold w_Slips_begin_L0 at hw
  exact hw (fun x5 M => rG p l e R s m args below meth c cells slots Qs D aC ad 7 3 [(0, vR 10), (1, vR 1), (2, vI x2), (4, vI x4), (5, vI x5)] [] M) (fun x5 M hb => s_Slips_begin_B0 hC hQ (fun _ _ h => h) hb)
def w_Slips_begin (M : Mem) (x2 : Int) (x3 : Int) (x4 : Int) (Q : Mem → Prop) : Prop :=
  w_Slips_begin_L0 Q x2 x4 x3 M
set_option maxRecDepth 100000 in
set_option maxHeartbeats 4000000 in
theorem s_Slips_begin {M : Mem} {x2 : Int} {x3 : Int} {x4 : Int} {Q : Mem → Prop} (hC : rC p R s m args meth c cells slots D aC ad 7 cX5_begin RX5 4 95 none) (hQ : ∀ (pc : Nat) (L : List (Nat × RV)) (M : Mem), decode cX5_begin pc = .ok (.return_, 1) → Q M → rG p l e R s m args below meth c cells slots Qs D aC ad 7 pc L [] M) (hw : w_Slips_begin M x2 x3 x4 Q) : rG p l e R s m args below meth c cells slots Qs D aC ad 7 0 [(0, vR 10), (1, vR 1), (2, vI x2), (3, vI x3), (4, vI x4)] [] M := by
  unfold w_Slips_begin at hw
  refine r_iload_n hC dX5_begin_0 rfl rfl ?_
  refine r_istore hC dX5_begin_1 (by decide) ?_
  exact r_subk (s_Slips_begin_L0 hC hQ hw) ⟨rfl, rfl, rfl, rfl, rfl, trivial⟩
set_option maxRecDepth 100000 in
set_option maxHeartbeats 4000000 in
theorem d_Slips_begin {l : Launch} {D : va_G} {aC : Nat → ClassId} {ad : Nat → Nat} {M : Mem} {x2 : Int} {x3 : Int} {x4 : Int} {Q : Mem → Prop} (hw : w_Slips_begin M x2 x3 x4 Q) : Does l D aC ad yX5_begin cX5_begin 7 none 4 95 [vR 10, vR 1, vI x2, vI x3, vI x4] M (pV Q) :=
  Does.of (by decide) (Nat.le_of_ble_eq_true rfl) (fun p e R s m args below meth c hC => r_subk (s_Slips_begin hC (fun pc L M d h => r_vret hC d ⟨rfl, h⟩) hw) ⟨rfl, rfl, rfl, rfl, rfl, trivial⟩)
/-- SoupSand$Ground.weightAbove -/
def w_Ground_weightAbove_j1 (Q : Int → Prop) (X9 : Int → Int → Int → Prop) (x1 : Int) (x2 : Int) (x4 : Int) (x5 : Int) (x6 : Int) (M : Mem) : Prop :=
  (0 ≤ (x1 * 6) + x6 ∧ (x1 * 6) + x6 < 36) ∧ (∀ a2 : Int, a2 = M 23 ((x1 * 6) + x6) → 0 ≤ a2 → a2 ≤ 60 → X9 (x4 + a2) x5 (x6 + 1))
set_option maxRecDepth 100000 in
set_option maxHeartbeats 4000000 in
theorem s_Ground_weightAbove_j1 {Q : Int → Prop} {X9 : Int → Int → Int → Prop} {x1 : Int} {x2 : Int} {x4 : Int} {x5 : Int} {x6 : Int} {M : Mem} (hC : rC p R s m args meth c cells slots D aC ad 8 cX0_weightAbove RX0 1 21 (some .int)) (hQ : ∀ (pc : Nat) (L : List (Nat × RV)) (z : Int), decode cX0_weightAbove pc = .ok (.ireturn, 1) → Q z → rG p l e R s m args below meth c cells slots Qs D aC ad 8 pc L [vI z] M) (hX9 : ∀ (x4 : Int) (x5 : Int) (x6 : Int), X9 x4 x5 x6 → rG p l e R s m args below meth c cells slots Qs D aC ad 8 9 [(0, vR 2), (1, vI x1), (2, vI x2), (3, vR 4), (4, vI x4), (5, vI x5), (6, vI x6)] [] M) (hw : w_Ground_weightAbove_j1 Q X9 x1 x2 x4 x5 x6 M) : rG p l e R s m args below meth c cells slots Qs D aC ad 8 81 [(0, vR 2), (1, vI x1), (2, vI x2), (3, vR 4), (4, vI x4), (5, vI x5), (6, vI x6)] [] M := by
  unfold w_Ground_weightAbove_j1 at hw
  refine r_iload hC dX0_weightAbove_81 rfl ?_
  refine r_aload_n hC dX0_weightAbove_83 rfl rfl ?_
  refine r_getR hC 4 rfl (by decide) kf0_24 rfl rfl dX0_weightAbove_84 ?_
  refine r_iload_n hC dX0_weightAbove_87 rfl rfl ?_
  refine r_bipush hC dX0_weightAbove_88 (by decide) ?_
  refine r_imul hC dX0_weightAbove_90 ?_
  refine r_iload hC dX0_weightAbove_91 rfl ?_
  refine r_iadd hC dX0_weightAbove_93 ?_
  obtain ⟨o1, hw⟩ := hw
  refine r_iald hC rfl o1.1 o1.2 (by decide) (by decide) dX0_weightAbove_94 (fun b3 b3' => ?_)
  replace hw := hw _ rfl b3 b3'
  refine r_iadd hC dX0_weightAbove_95 ?_
  refine r_istore hC dX0_weightAbove_96 (by decide) ?_
  refine r_iinc hC dX0_weightAbove_98 rfl (by decide) ?_
  refine r_goto hC 9 dX0_weightAbove_101 (by decide) ?_
  exact r_subk (hX9 _ _ _ hw) ⟨rfl, rfl, rfl, rfl, rfl, rfl, rfl, trivial⟩
def w_Ground_weightAbove_j0 (Q : Int → Prop) (X9 : Int → Int → Int → Prop) (x1 : Int) (x2 : Int) (x4 : Int) (x6 : Int) (s0 : Int) (s1 : Int) (s3 : Int) (M : Mem) : Prop :=
  w_Rules_unitWeight M s3 (fun a1 => w_Ground_weightAbove_j1 Q X9 x1 x2 x4 (s0 + (s1 * a1)) x6 M)
set_option maxRecDepth 100000 in
set_option maxHeartbeats 4000000 in
theorem s_Ground_weightAbove_j0 {Q : Int → Prop} {X9 : Int → Int → Int → Prop} {x1 : Int} {x2 : Int} {x4 : Int} {x6 : Int} {s0 : Int} {s1 : Int} {s3 : Int} {M : Mem} (hC : rC p R s m args meth c cells slots D aC ad 8 cX0_weightAbove RX0 1 21 (some .int)) (hQ : ∀ (pc : Nat) (L : List (Nat × RV)) (z : Int), decode cX0_weightAbove pc = .ok (.ireturn, 1) → Q z → rG p l e R s m args below meth c cells slots Qs D aC ad 8 pc L [vI z] M) (hX9 : ∀ (x4 : Int) (x5 : Int) (x6 : Int), X9 x4 x5 x6 → rG p l e R s m args below meth c cells slots Qs D aC ad 8 9 [(0, vR 2), (1, vI x1), (2, vI x2), (3, vR 4), (4, vI x4), (5, vI x5), (6, vI x6)] [] M) (hw : w_Ground_weightAbove_j0 Q X9 x1 x2 x4 x6 s0 s1 s3 M) : rG p l e R s m args below meth c cells slots Qs D aC ad 8 74 [(0, vR 2), (1, vI x1), (2, vI x2), (3, vR 4), (4, vI x4), (6, vI x6)] [vI s3, vR 4, vI s1, vI s0] M := by
  unfold w_Ground_weightAbove_j0 at hw
  refine r_callV hC (d_Rules_unitWeight hw) rfl kC3_unitWeight km0_48 kI3_unitWeight kS3_unitWeight kN3 dd_3_unitWeight ⟨Nat.le_of_ble_eq_true rfl, Nat.le_of_ble_eq_true rfl⟩ rfl (Nat.le_of_ble_eq_true rfl) dX0_weightAbove_74 (fun r M' hp => ?_)
  obtain ⟨rfl, a1, rfl, hw⟩ := hp
  try dsimp only at hw
  refine r_imul hC dX0_weightAbove_77 ?_
  refine r_iadd hC dX0_weightAbove_78 ?_
  refine r_istore hC dX0_weightAbove_79 (by decide) ?_
  exact r_subk (s_Ground_weightAbove_j1 hC hQ hX9 hw) ⟨rfl, rfl, rfl, rfl, rfl, rfl, rfl, trivial⟩
def w_Ground_weightAbove_B0 (Q : Int → Prop) (x1 : Int) (x2 : Int) (M : Mem) (X9 : Int → Int → Int → Prop) (x4 : Int) (x5 : Int) (x6 : Int) : Prop :=
  (0 ≤ x1 ∧ x1 < 6) ∧ (∀ a2 : Int, a2 = M 21 x1 → 0 ≤ a2 → a2 ≤ 6 → (-2147483648 ≤ x6 ∧ x6 ≤ 2147483647) ∧ ((a2 ≤ x6 → Q x5) ∧ (¬ (a2 ≤ x6) → (0 ≤ (x1 * 6) + x6 ∧ (x1 * 6) + x6 < 36) ∧ (∀ a8 : Int, a8 = M 23 ((x1 * 6) + x6) → 0 ≤ a8 → a8 ≤ 60 → (0 ≤ x1 ∧ x1 < 6) ∧ (∀ a11 : Int, a11 = M 19 x1 → 0 ≤ a11 → a11 ≤ 999 → (-2147483648 ≤ (a11 - x4) - x2 ∧ (a11 - x4) - x2 ≤ 2147483647) ∧ ((-2147483648 ≤ min a8 ((a11 - x4) - x2) ∧ min a8 ((a11 - x4) - x2) ≤ 2147483647) ∧ ((min a8 ((a11 - x4) - x2) ≤ 0 → w_Ground_weightAbove_j1 Q X9 x1 x2 x4 x5 x6 M) ∧ (¬ (min a8 ((a11 - x4) - x2) ≤ 0) → (0 ≤ x1 ∧ x1 < 6) ∧ (∀ a19 : Int, a19 = M 20 x1 → 0 ≤ a19 → a19 ≤ 400 → (-2147483648 ≤ x4 ∧ x4 ≤ 2147483647) ∧ ((x4 < a19 → w_Ground_weightAbove_j0 Q X9 x1 x2 x4 x6 x5 (min a8 ((a11 - x4) - x2)) 0 M) ∧ (¬ (x4 < a19) → w_Ground_weightAbove_j0 Q X9 x1 x2 x4 x6 x5 (min a8 ((a11 - x4) - x2)) 1 M)))))))))))
set_option maxRecDepth 100000 in
set_option maxHeartbeats 4000000 in
theorem s_Ground_weightAbove_B0 {Q : Int → Prop} {x1 : Int} {x2 : Int} {M : Mem} {X9 : Int → Int → Int → Prop} {x4 : Int} {x5 : Int} {x6 : Int} (hC : rC p R s m args meth c cells slots D aC ad 8 cX0_weightAbove RX0 1 21 (some .int)) (hQ : ∀ (pc : Nat) (L : List (Nat × RV)) (z : Int), decode cX0_weightAbove pc = .ok (.ireturn, 1) → Q z → rG p l e R s m args below meth c cells slots Qs D aC ad 8 pc L [vI z] M) (hX9 : ∀ (x4 : Int) (x5 : Int) (x6 : Int), X9 x4 x5 x6 → rG p l e R s m args below meth c cells slots Qs D aC ad 8 9 [(0, vR 2), (1, vI x1), (2, vI x2), (3, vR 4), (4, vI x4), (5, vI x5), (6, vI x6)] [] M) (hw : w_Ground_weightAbove_B0 Q x1 x2 M X9 x4 x5 x6) : rG p l e R s m args below meth c cells slots Qs D aC ad 8 9 [(0, vR 2), (1, vI x1), (2, vI x2), (3, vR 4), (4, vI x4), (5, vI x5), (6, vI x6)] [] M := by
  unfold w_Ground_weightAbove_B0 at hw
  refine r_iload hC dX0_weightAbove_9 rfl ?_
  refine r_aload_n hC dX0_weightAbove_11 rfl rfl ?_
  refine r_getR hC 2 rfl (by decide) kf0_18 rfl rfl dX0_weightAbove_12 ?_
  refine r_iload_n hC dX0_weightAbove_15 rfl rfl ?_
  obtain ⟨o1, hw⟩ := hw
  refine r_iald hC rfl o1.1 o1.2 (by decide) (by decide) dX0_weightAbove_16 (fun b3 b3' => ?_)
  replace hw := hw _ rfl b3 b3'
  obtain ⟨o4, hw⟩ := hw
  obtain ⟨hwt, hwf⟩ := hw
  refine r_icmp_ge hC 104 dX0_weightAbove_17 (by decide) o4.1 o4.2 (by omega) (by omega) (fun c6 => ?_) (fun c6 => ?_)
  · have hw := hwt c6
    refine r_iload hC dX0_weightAbove_104 rfl ?_
    exact hQ _ _ _ dX0_weightAbove_106 hw
  · have hw := hwf c6
    refine r_aload_n hC dX0_weightAbove_20 rfl rfl ?_
    refine r_getR hC 4 rfl (by decide) kf0_24 rfl rfl dX0_weightAbove_21 ?_
    refine r_iload_n hC dX0_weightAbove_24 rfl rfl ?_
    refine r_bipush hC dX0_weightAbove_25 (by decide) ?_
    refine r_imul hC dX0_weightAbove_27 ?_
    refine r_iload hC dX0_weightAbove_28 rfl ?_
    refine r_iadd hC dX0_weightAbove_30 ?_
    obtain ⟨o7, hw⟩ := hw
    refine r_iald hC rfl o7.1 o7.2 (by decide) (by decide) dX0_weightAbove_31 (fun b9 b9' => ?_)
    replace hw := hw _ rfl b9 b9'
    refine r_aload_n hC dX0_weightAbove_32 rfl rfl ?_
    refine r_getR hC 0 rfl (by decide) kf0_9 rfl rfl dX0_weightAbove_33 ?_
    refine r_iload_n hC dX0_weightAbove_36 rfl rfl ?_
    obtain ⟨o10, hw⟩ := hw
    refine r_iald hC rfl o10.1 o10.2 (by decide) (by decide) dX0_weightAbove_37 (fun b12 b12' => ?_)
    replace hw := hw _ rfl b12 b12'
    refine r_iload hC dX0_weightAbove_38 rfl ?_
    refine r_isub hC dX0_weightAbove_40 ?_
    refine r_iload_n hC dX0_weightAbove_41 rfl rfl ?_
    refine r_isub hC dX0_weightAbove_42 ?_
    obtain ⟨o14, hw⟩ := hw
    refine r_min hC km0_59 (by decide) (Nat.le_of_ble_eq_true rfl) dX0_weightAbove_43 (by omega) (by omega) o14.1 o14.2 ?_
    refine r_istore hC dX0_weightAbove_46 (by decide) ?_
    refine r_iload hC dX0_weightAbove_48 rfl ?_
    obtain ⟨o15, hw⟩ := hw
    obtain ⟨hwt, hwf⟩ := hw
    refine r_if_le hC 81 dX0_weightAbove_50 (by decide) o15.1 o15.2 (fun c17 => ?_) (fun c17 => ?_)
    · have hw := hwt c17
      exact r_subk (s_Ground_weightAbove_j1 hC hQ hX9 hw) ⟨rfl, rfl, rfl, rfl, rfl, rfl, rfl, trivial⟩
    · have hw := hwf c17
      refine r_iload hC dX0_weightAbove_53 rfl ?_
      refine r_iload hC dX0_weightAbove_55 rfl ?_
      refine r_aload_n hC dX0_weightAbove_57 rfl rfl ?_
      refine r_iload hC dX0_weightAbove_58 rfl ?_
      refine r_aload_n hC dX0_weightAbove_60 rfl rfl ?_
      refine r_getR hC 1 rfl (by decide) kf0_15 rfl rfl dX0_weightAbove_61 ?_
      refine r_iload_n hC dX0_weightAbove_64 rfl rfl ?_
      obtain ⟨o18, hw⟩ := hw
      refine r_iald hC rfl o18.1 o18.2 (by decide) (by decide) dX0_weightAbove_65 (fun b20 b20' => ?_)
      replace hw := hw _ rfl b20 b20'
      obtain ⟨o21, hw⟩ := hw
      obtain ⟨hwt, hwf⟩ := hw
      refine r_icmp_lt hC 73 dX0_weightAbove_66 (by decide) o21.1 o21.2 (by omega) (by omega) (fun c23 => ?_) (fun c23 => ?_)
      · have hw := hwt c23
        refine r_iconst hC dX0_weightAbove_73 ?_
        exact r_subk (s_Ground_weightAbove_j0 hC hQ hX9 hw) ⟨rfl, rfl, rfl, rfl, rfl, rfl, trivial⟩
      · have hw := hwf c23
        refine r_iconst hC dX0_weightAbove_69 ?_
        refine r_goto hC 74 dX0_weightAbove_70 (by decide) ?_
        exact r_subk (s_Ground_weightAbove_j0 hC hQ hX9 hw) ⟨rfl, rfl, rfl, rfl, rfl, rfl, trivial⟩
def w_Ground_weightAbove_L0 (Q : Int → Prop) (x1 : Int) (x2 : Int) (M : Mem) (x4 : Int) (x5 : Int) (x6 : Int) : Prop :=
  ∀ X : Int → Int → Int → Prop, (∀ (x4 : Int) (x5 : Int) (x6 : Int), w_Ground_weightAbove_B0 Q x1 x2 M X x4 x5 x6 → X x4 x5 x6) → X x4 x5 x6
set_option maxRecDepth 100000 in
set_option maxHeartbeats 4000000 in
theorem s_Ground_weightAbove_L0 {Q : Int → Prop} {x1 : Int} {x2 : Int} {M : Mem} {x4 : Int} {x5 : Int} {x6 : Int} (hC : rC p R s m args meth c cells slots D aC ad 8 cX0_weightAbove RX0 1 21 (some .int)) (hQ : ∀ (pc : Nat) (L : List (Nat × RV)) (z : Int), decode cX0_weightAbove pc = .ok (.ireturn, 1) → Q z → rG p l e R s m args below meth c cells slots Qs D aC ad 8 pc L [vI z] M) (hw : w_Ground_weightAbove_L0 Q x1 x2 M x4 x5 x6) : rG p l e R s m args below meth c cells slots Qs D aC ad 8 9 [(0, vR 2), (1, vI x1), (2, vI x2), (3, vR 4), (4, vI x4), (5, vI x5), (6, vI x6)] [] M := by
  unfold w_Ground_weightAbove_L0 at hw
  exact hw (fun x4 x5 x6 => rG p l e R s m args below meth c cells slots Qs D aC ad 8 9 [(0, vR 2), (1, vI x1), (2, vI x2), (3, vR 4), (4, vI x4), (5, vI x5), (6, vI x6)] [] M) (fun x4 x5 x6 hb => s_Ground_weightAbove_B0 hC hQ (fun _ _ _ h => h) hb)
def w_Ground_weightAbove (M : Mem) (x1 : Int) (x2 : Int) (Q : Int → Prop) : Prop :=
  w_Ground_weightAbove_L0 Q x1 x2 M 0 0 0
set_option maxRecDepth 100000 in
set_option maxHeartbeats 4000000 in
theorem s_Ground_weightAbove {M : Mem} {x1 : Int} {x2 : Int} {Q : Int → Prop} (hC : rC p R s m args meth c cells slots D aC ad 8 cX0_weightAbove RX0 1 21 (some .int)) (hQ : ∀ (pc : Nat) (L : List (Nat × RV)) (z : Int), decode cX0_weightAbove pc = .ok (.ireturn, 1) → Q z → rG p l e R s m args below meth c cells slots Qs D aC ad 8 pc L [vI z] M) (hw : w_Ground_weightAbove M x1 x2 Q) : rG p l e R s m args below meth c cells slots Qs D aC ad 8 0 [(0, vR 2), (1, vI x1), (2, vI x2), (3, vR 4)] [] M := by
  unfold w_Ground_weightAbove at hw
  refine r_iconst hC dX0_weightAbove_0 ?_
  refine r_istore hC dX0_weightAbove_1 (by decide) ?_
  refine r_iconst hC dX0_weightAbove_3 ?_
  refine r_istore hC dX0_weightAbove_4 (by decide) ?_
  refine r_iconst hC dX0_weightAbove_6 ?_
  refine r_istore hC dX0_weightAbove_7 (by decide) ?_
  exact r_subk (s_Ground_weightAbove_L0 hC hQ hw) ⟨rfl, rfl, rfl, rfl, rfl, rfl, rfl, trivial⟩
set_option maxRecDepth 100000 in
set_option maxHeartbeats 4000000 in
theorem d_Ground_weightAbove {l : Launch} {D : va_G} {aC : Nat → ClassId} {ad : Nat → Nat} {M : Mem} {x1 : Int} {x2 : Int} {Q : Int → Prop} (hw : w_Ground_weightAbove M x1 x2 Q) : Does l D aC ad yX0_weightAbove cX0_weightAbove 8 (some .int) 1 21 [vR 2, vI x1, vI x2, vR 4] M (qI M Q) :=
  Does.of (by decide) (Nat.le_of_ble_eq_true rfl) (fun p e R s m args below meth c hC => r_subk (s_Ground_weightAbove hC (fun pc L z d h => r_iret hC d ⟨rfl, ⟨z, rfl, h⟩⟩) hw) ⟨rfl, rfl, rfl, rfl, trivial⟩)
end
