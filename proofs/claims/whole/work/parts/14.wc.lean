section
variable {p : Program} {l : Launch} {e : Env} {R : Room} {s : State} {m : MethodId} {args : Array Value} {below : List Frame} {meth : Method} {c : Code} {cells slots : Nat} {Qs : State → Prop} {D : va_G} {aC : Nat → ClassId} {ad : Nat → Nat}
/-- SoupSand$Ground.layerAt -/
def w_Ground_layerAt_B0 (Q : Int → Prop) (x1 : Int) (x2 : Int) (M : Mem) (X10 : Int → Int → Prop) (x3 : Int) (x4 : Int) : Prop :=
  (0 ≤ x1 ∧ x1 < 6) ∧ (∀ a2 : Int, a2 = M 21 x1 → 0 ≤ a2 → a2 ≤ 6 → (-2147483648 ≤ x4 ∧ x4 ≤ 2147483647) ∧ ((a2 ≤ x4 → Q (-1)) ∧ (¬ (a2 ≤ x4) → (0 ≤ (x1 * 6) + x4 ∧ (x1 * 6) + x4 < 36) ∧ (∀ a8 : Int, a8 = M 23 ((x1 * 6) + x4) → 0 ≤ a8 → a8 ≤ 60 → (-2147483648 ≤ x3 ∧ x3 ≤ 2147483647) ∧ ((-2147483648 ≤ x2 ∧ x2 ≤ 2147483647) ∧ ((x3 < x2 → X10 (x3 - a8) (x4 + 1)) ∧ (¬ (x3 < x2) → (-2147483648 ≤ x3 - a8 ∧ x3 - a8 ≤ 2147483647) ∧ ((-2147483648 ≤ x2 ∧ x2 ≤ 2147483647) ∧ ((x2 ≤ x3 - a8 → X10 (x3 - a8) (x4 + 1)) ∧ (¬ (x2 ≤ x3 - a8) → Q x4))))))))))
set_option maxRecDepth 100000 in
set_option maxHeartbeats 4000000 in
theorem s_Ground_layerAt_B0 {Q : Int → Prop} {x1 : Int} {x2 : Int} {M : Mem} {X10 : Int → Int → Prop} {x3 : Int} {x4 : Int} (hC : rC p R s m args meth c cells slots D aC ad 6 cX0_layerAt RX0 0 0 (some .int)) (hQ : ∀ (pc : Nat) (L : List (Nat × RV)) (z : Int), decode cX0_layerAt pc = .ok (.ireturn, 1) → Q z → rG p l e R s m args below meth c cells slots Qs D aC ad 6 pc L [vI z] M) (hX10 : ∀ (x3 : Int) (x4 : Int), X10 x3 x4 → rG p l e R s m args below meth c cells slots Qs D aC ad 6 10 [(0, vR 2), (1, vI x1), (2, vI x2), (3, vI x3), (4, vI x4)] [] M) (hw : w_Ground_layerAt_B0 Q x1 x2 M X10 x3 x4) : rG p l e R s m args below meth c cells slots Qs D aC ad 6 10 [(0, vR 2), (1, vI x1), (2, vI x2), (3, vI x3), (4, vI x4)] [] M := by
  unfold w_Ground_layerAt_B0 at hw
  refine r_iload hC dX0_layerAt_10 rfl ?_
  refine r_aload_n hC dX0_layerAt_12 rfl rfl ?_
  refine r_getR hC 2 rfl (by decide) kf0_18 rfl rfl dX0_layerAt_13 ?_
  refine r_iload_n hC dX0_layerAt_16 rfl rfl ?_
  obtain ⟨o1, hw⟩ := hw
  refine r_iald hC rfl o1.1 o1.2 (by decide) (by decide) dX0_layerAt_17 (fun b3 b3' => ?_)
  replace hw := hw _ rfl b3 b3'
  obtain ⟨o4, hw⟩ := hw
  obtain ⟨hwt, hwf⟩ := hw
  refine r_icmp_ge hC 60 dX0_layerAt_18 (by decide) o4.1 o4.2 (by omega) (by omega) (fun c6 => ?_) (fun c6 => ?_)
  · have hw := hwt c6
    refine r_iconst hC dX0_layerAt_60 ?_
    exact hQ _ _ _ dX0_layerAt_61 hw
  · have hw := hwf c6
    refine r_iload_n hC dX0_layerAt_21 rfl rfl ?_
    refine r_aload_n hC dX0_layerAt_22 rfl rfl ?_
    refine r_getR hC 4 rfl (by decide) kf0_24 rfl rfl dX0_layerAt_23 ?_
    refine r_iload_n hC dX0_layerAt_26 rfl rfl ?_
    refine r_bipush hC dX0_layerAt_27 (by decide) ?_
    refine r_imul hC dX0_layerAt_29 ?_
    refine r_iload hC dX0_layerAt_30 rfl ?_
    refine r_iadd hC dX0_layerAt_32 ?_
    obtain ⟨o7, hw⟩ := hw
    refine r_iald hC rfl o7.1 o7.2 (by decide) (by decide) dX0_layerAt_33 (fun b9 b9' => ?_)
    replace hw := hw _ rfl b9 b9'
    refine r_isub hC dX0_layerAt_34 ?_
    refine r_istore hC dX0_layerAt_35 (by decide) ?_
    refine r_iload_n hC dX0_layerAt_37 rfl rfl ?_
    refine r_iload_n hC dX0_layerAt_38 rfl rfl ?_
    obtain ⟨o10, hw⟩ := hw
    obtain ⟨o11, hw⟩ := hw
    obtain ⟨hwt, hwf⟩ := hw
    refine r_icmp_lt hC 51 dX0_layerAt_39 (by decide) o10.1 o10.2 o11.1 o11.2 (fun c12 => ?_) (fun c12 => ?_)
    · have hw := hwt c12
      refine r_iload hC dX0_layerAt_51 rfl ?_
      refine r_istore_n hC dX0_layerAt_53 rfl (by decide) ?_
      refine r_iinc hC dX0_layerAt_54 rfl (by decide) ?_
      refine r_goto hC 10 dX0_layerAt_57 (by decide) ?_
      exact r_subk (hX10 _ _ hw) ⟨rfl, rfl, rfl, rfl, rfl, trivial⟩
    · have hw := hwf c12
      refine r_iload hC dX0_layerAt_42 rfl ?_
      refine r_iload_n hC dX0_layerAt_44 rfl rfl ?_
      obtain ⟨o13, hw⟩ := hw
      obtain ⟨o14, hw⟩ := hw
      obtain ⟨hwt, hwf⟩ := hw
      refine r_icmp_ge hC 51 dX0_layerAt_45 (by decide) o13.1 o13.2 o14.1 o14.2 (fun c15 => ?_) (fun c15 => ?_)
      · have hw := hwt c15
        refine r_iload hC dX0_layerAt_51 rfl ?_
        refine r_istore_n hC dX0_layerAt_53 rfl (by decide) ?_
        refine r_iinc hC dX0_layerAt_54 rfl (by decide) ?_
        refine r_goto hC 10 dX0_layerAt_57 (by decide) ?_
        exact r_subk (hX10 _ _ hw) ⟨rfl, rfl, rfl, rfl, rfl, trivial⟩
      · have hw := hwf c15
        refine r_iload hC dX0_layerAt_48 rfl ?_
        exact hQ _ _ _ dX0_layerAt_50 hw
def w_Ground_layerAt_L0 (Q : Int → Prop) (x1 : Int) (x2 : Int) (M : Mem) (x3 : Int) (x4 : Int) : Prop :=
  ∀ X : Int → Int → Prop, (∀ (x3 : Int) (x4 : Int), w_Ground_layerAt_B0 Q x1 x2 M X x3 x4 → X x3 x4) → X x3 x4
set_option maxRecDepth 100000 in
set_option maxHeartbeats 4000000 in
theorem s_Ground_layerAt_L0 {Q : Int → Prop} {x1 : Int} {x2 : Int} {M : Mem} {x3 : Int} {x4 : Int} (hC : rC p R s m args meth c cells slots D aC ad 6 cX0_layerAt RX0 0 0 (some .int)) (hQ : ∀ (pc : Nat) (L : List (Nat × RV)) (z : Int), decode cX0_layerAt pc = .ok (.ireturn, 1) → Q z → rG p l e R s m args below meth c cells slots Qs D aC ad 6 pc L [vI z] M) (hw : w_Ground_layerAt_L0 Q x1 x2 M x3 x4) : rG p l e R s m args below meth c cells slots Qs D aC ad 6 10 [(0, vR 2), (1, vI x1), (2, vI x2), (3, vI x3), (4, vI x4)] [] M := by
  unfold w_Ground_layerAt_L0 at hw
  exact hw (fun x3 x4 => rG p l e R s m args below meth c cells slots Qs D aC ad 6 10 [(0, vR 2), (1, vI x1), (2, vI x2), (3, vI x3), (4, vI x4)] [] M) (fun x3 x4 hb => s_Ground_layerAt_B0 hC hQ (fun _ _ h => h) hb)
def w_Ground_layerAt (M : Mem) (x1 : Int) (x2 : Int) (Q : Int → Prop) : Prop :=
  (0 ≤ x1 ∧ x1 < 6) ∧ (∀ a2 : Int, a2 = M 19 x1 → 0 ≤ a2 → a2 ≤ 999 → w_Ground_layerAt_L0 Q x1 x2 M a2 0)
set_option maxRecDepth 100000 in
set_option maxHeartbeats 4000000 in
theorem s_Ground_layerAt {M : Mem} {x1 : Int} {x2 : Int} {Q : Int → Prop} (hC : rC p R s m args meth c cells slots D aC ad 6 cX0_layerAt RX0 0 0 (some .int)) (hQ : ∀ (pc : Nat) (L : List (Nat × RV)) (z : Int), decode cX0_layerAt pc = .ok (.ireturn, 1) → Q z → rG p l e R s m args below meth c cells slots Qs D aC ad 6 pc L [vI z] M) (hw : w_Ground_layerAt M x1 x2 Q) : rG p l e R s m args below meth c cells slots Qs D aC ad 6 0 [(0, vR 2), (1, vI x1), (2, vI x2)] [] M := by
  unfold w_Ground_layerAt at hw
  refine r_aload_n hC dX0_layerAt_0 rfl rfl ?_
  refine r_getR hC 0 rfl (by decide) kf0_9 rfl rfl dX0_layerAt_1 ?_
  refine r_iload_n hC dX0_layerAt_4 rfl rfl ?_
  obtain ⟨o1, hw⟩ := hw
  refine r_iald hC rfl o1.1 o1.2 (by decide) (by decide) dX0_layerAt_5 (fun b3 b3' => ?_)
  replace hw := hw _ rfl b3 b3'
  refine r_istore_n hC dX0_layerAt_6 rfl (by decide) ?_
  refine r_iconst hC dX0_layerAt_7 ?_
  refine r_istore hC dX0_layerAt_8 (by decide) ?_
  exact r_subk (s_Ground_layerAt_L0 hC hQ hw) ⟨rfl, rfl, rfl, rfl, rfl, trivial⟩
set_option maxRecDepth 100000 in
set_option maxHeartbeats 4000000 in
theorem d_Ground_layerAt {l : Launch} {D : va_G} {aC : Nat → ClassId} {ad : Nat → Nat} {M : Mem} {x1 : Int} {x2 : Int} {Q : Int → Prop} (hw : w_Ground_layerAt M x1 x2 Q) : Does l D aC ad yX0_layerAt cX0_layerAt 6 (some .int) 0 0 [vR 2, vI x1, vI x2] M (qI M Q) :=
  Does.of (by decide) (Nat.le_of_ble_eq_true rfl) (fun p e R s m args below meth c hC => r_subk (s_Ground_layerAt hC (fun pc L z d h => r_iret hC d ⟨rfl, ⟨z, rfl, h⟩⟩) hw) ⟨rfl, rfl, rfl, trivial⟩)
theorem dd_0_layerAt : yX0_layerAt.cls ≠ "java/lang/invoke/MethodHandle" ∧ yX0_layerAt.cls ≠ "java/lang/invoke/VarHandle" ∧ (parseMethodDescriptor yX0_layerAt.desc).map (fun d => d.parameters.length) = some 2 := by decide +kernel
theorem dd_0_weightAbove : yX0_weightAbove.cls ≠ "java/lang/invoke/MethodHandle" ∧ yX0_weightAbove.cls ≠ "java/lang/invoke/VarHandle" ∧ (parseMethodDescriptor yX0_weightAbove.desc).map (fun d => d.parameters.length) = some 3 := by decide +kernel
/-- SoupSand$Slips.weigh -/
def w_Slips_weigh_B0 (Q : Int → Mem → Prop) (x2 : Int) (x3 : Int) (x4 : Int) (X12 : Int → Mem → Prop) (x5 : Int) (M : Mem) : Prop :=
  (-2147483648 ≤ x2 ∧ x2 ≤ 2147483647) ∧ ((-2147483648 ≤ x3 ∧ x3 ≤ 2147483647) ∧ ((-2147483648 ≤ x5 ∧ x5 ≤ 2147483647) ∧ ((-2147483648 ≤ max x2 x3 ∧ max x2 x3 ≤ 2147483647) ∧ ((max x2 x3 < x5 → w_Ground_weightAbove M x2 x4 (fun a6 => w_Ground_weightAbove M x3 x4 (fun a7 => (-2147483648 ≤ a6 - a7 ∧ a6 - a7 ≤ 2147483647) ∧ ((-1125899906842624 ≤ a6 - a7 ∧ a6 - a7 ≤ 1125899906842624) ∧ (∀ M10 : Mem, M10 = mset M 10 2 (a6 - a7) → ∀ a11 : Int, a11 = M10 10 2 → -1125899906842624 ≤ a11 → a11 ≤ 1125899906842624 → (a11 ≤ 0 → Q 0 M10) ∧ (¬ (a11 ≤ 0) → Q 1 M10)))))) ∧ (¬ (max x2 x3 < x5) → w_Ground_layerAt M x5 x4 (fun a18 => (-2147483648 ≤ a18 ∧ a18 ≤ 2147483647) ∧ ((¬ (a18 = (-1)) → ∀ a22 : Int, a22 = M 10 1 → -1125899906842624 ≤ a22 → a22 ≤ 1125899906842624 → (0 ≤ (x5 * 6) + a18 ∧ (x5 * 6) + a18 < 36) ∧ (∀ a25 : Int, a25 = M 50 ((x5 * 6) + a18) → 0 ≤ a25 → a25 ≤ 2000000000 → (-1125899906842624 ≤ a22 + a25 ∧ a22 + a25 ≤ 1125899906842624) ∧ (∀ M29 : Mem, M29 = mset M 10 1 (a22 + a25) → X12 (x5 + 1) M29))) ∧ (a18 = (-1) → Q 0 M))))))))
set_option maxRecDepth 100000 in
set_option maxHeartbeats 4000000 in
theorem s_Slips_weigh_B0 {Q : Int → Mem → Prop} {x2 : Int} {x3 : Int} {x4 : Int} {X12 : Int → Mem → Prop} {x5 : Int} {M : Mem} (hC : rC p R s m args meth c cells slots D aC ad 7 cX5_weigh RX5 2 48 (some .boolean)) (hQ : ∀ (pc : Nat) (L : List (Nat × RV)) (z : Int) (M : Mem), decode cX5_weigh pc = .ok (.ireturn, 1) → 0 ≤ z → z ≤ 1 → Q z M → rG p l e R s m args below meth c cells slots Qs D aC ad 7 pc L [vI z] M) (hX12 : ∀ (x5 : Int) (M : Mem), X12 x5 M → rG p l e R s m args below meth c cells slots Qs D aC ad 7 12 [(0, vR 10), (1, vR 1), (2, vI x2), (3, vI x3), (4, vI x4), (5, vI x5)] [] M) (hw : w_Slips_weigh_B0 Q x2 x3 x4 X12 x5 M) : rG p l e R s m args below meth c cells slots Qs D aC ad 7 12 [(0, vR 10), (1, vR 1), (2, vI x2), (3, vI x3), (4, vI x4), (5, vI x5)] [] M := by
  unfold w_Slips_weigh_B0 at hw
  refine r_iload hC dX5_weigh_12 rfl ?_
  refine r_iload_n hC dX5_weigh_14 rfl rfl ?_
  refine r_iload_n hC dX5_weigh_15 rfl rfl ?_
  obtain ⟨o1, hw⟩ := hw
  obtain ⟨o2, hw⟩ := hw
  refine r_max hC km5_44 (by decide) (Nat.le_of_ble_eq_true rfl) dX5_weigh_16 o1.1 o1.2 o2.1 o2.2 ?_
  obtain ⟨o3, hw⟩ := hw
  obtain ⟨o4, hw⟩ := hw
  obtain ⟨hwt, hwf⟩ := hw
  refine r_icmp_gt hC 72 dX5_weigh_19 (by decide) o3.1 o3.2 o4.1 o4.2 (fun c5 => ?_) (fun c5 => ?_)
  · have hw := hwt c5
    refine r_aload_n hC dX5_weigh_72 rfl rfl ?_
    refine r_aload_n hC dX5_weigh_73 rfl rfl ?_
    refine r_getR hC 0 rfl (by decide) kf5_21 rfl rfl dX5_weigh_74 ?_
    refine r_iload_n hC dX5_weigh_77 rfl rfl ?_
    refine r_iload hC dX5_weigh_78 rfl ?_
    refine r_aload_n hC dX5_weigh_80 rfl rfl ?_
    refine r_getR hC 2 rfl (by decide) kf5_50 rfl rfl dX5_weigh_81 ?_
    refine r_callV hC (d_Ground_weightAbove hw) rfl kC0_weightAbove km5_54 kI0_weightAbove kS0_weightAbove kN0 dd_0_weightAbove ⟨Nat.le_of_ble_eq_true rfl, Nat.le_of_ble_eq_true rfl⟩ rfl (Nat.le_of_ble_eq_true rfl) dX5_weigh_84 (fun r M' hp => ?_)
    obtain ⟨rfl, a6, rfl, hw⟩ := hp
    try dsimp only at hw
    refine r_aload_n hC dX5_weigh_87 rfl rfl ?_
    refine r_getR hC 0 rfl (by decide) kf5_21 rfl rfl dX5_weigh_88 ?_
    refine r_iload_n hC dX5_weigh_91 rfl rfl ?_
    refine r_iload hC dX5_weigh_92 rfl ?_
    refine r_aload_n hC dX5_weigh_94 rfl rfl ?_
    refine r_getR hC 2 rfl (by decide) kf5_50 rfl rfl dX5_weigh_95 ?_
    refine r_callV hC (d_Ground_weightAbove hw) rfl kC0_weightAbove km5_54 kI0_weightAbove kS0_weightAbove kN0 dd_0_weightAbove ⟨Nat.le_of_ble_eq_true rfl, Nat.le_of_ble_eq_true rfl⟩ rfl (Nat.le_of_ble_eq_true rfl) dX5_weigh_98 (fun r M' hp => ?_)
    obtain ⟨rfl, a7, rfl, hw⟩ := hp
    try dsimp only at hw
    refine r_isub hC dX5_weigh_101 ?_
    obtain ⟨o8, hw⟩ := hw
    refine r_i2l hC dX5_weigh_102 o8.1 o8.2 ?_
    obtain ⟨o9, hw⟩ := hw
    refine r_putJ hC 2 rfl (by decide) kf5_58 rfl rfl o9.1 o9.2 dX5_weigh_103 ?_
    replace hw := hw _ rfl
    refine r_aload_n hC dX5_weigh_106 rfl rfl ?_
    refine r_getJ hC 2 rfl (by decide) kf5_58 rfl rfl dX5_weigh_107 (fun b12 b12' => ?_)
    replace hw := hw _ rfl b12 b12'
    refine r_lconst hC 0 dX5_weigh_110 (by decide) ?_
    obtain ⟨hwt, hwf⟩ := hw
    refine r_lcmp_le hC 119 dX5_weigh_111 dX5_weigh_112 (by decide) (by omega) (by omega) (by decide) (by decide) (fun c15 => ?_) (fun c15 => ?_)
    · have hw := hwt c15
      refine r_iconst hC dX5_weigh_119 ?_
      exact hQ _ _ _ _ dX5_weigh_120 (by decide) (by decide) hw
    · have hw := hwf c15
      refine r_iconst hC dX5_weigh_115 ?_
      refine r_goto hC 120 dX5_weigh_116 (by decide) ?_
      exact hQ _ _ _ _ dX5_weigh_120 (by decide) (by decide) hw
  · have hw := hwf c5
    refine r_aload_n hC dX5_weigh_22 rfl rfl ?_
    refine r_getR hC 0 rfl (by decide) kf5_21 rfl rfl dX5_weigh_23 ?_
    refine r_iload hC dX5_weigh_26 rfl ?_
    refine r_iload hC dX5_weigh_28 rfl ?_
    refine r_callV hC (d_Ground_layerAt hw) rfl kC0_layerAt km5_47 kI0_layerAt kS0_layerAt kN0 dd_0_layerAt ⟨Nat.le_of_ble_eq_true rfl, Nat.le_of_ble_eq_true rfl⟩ rfl (Nat.le_of_ble_eq_true rfl) dX5_weigh_30 (fun r M' hp => ?_)
    obtain ⟨rfl, a18, rfl, hw⟩ := hp
    try dsimp only at hw
    refine r_istore hC dX5_weigh_33 (by decide) ?_
    refine r_iload hC dX5_weigh_35 rfl ?_
    refine r_iconst hC dX5_weigh_37 ?_
    obtain ⟨o19, hw⟩ := hw
    obtain ⟨hwt, hwf⟩ := hw
    refine r_icmp_ne hC 43 dX5_weigh_38 (by decide) o19.1 o19.2 (by decide) (by decide) (fun c21 => ?_) (fun c21 => ?_)
    · have hw := hwt c21
      refine r_aload_n hC dX5_weigh_43 rfl rfl ?_
      refine r_dup hC dX5_weigh_44 rfl ?_
      refine r_getJ hC 1 rfl (by decide) kf5_34 rfl rfl dX5_weigh_45 (fun b23 b23' => ?_)
      replace hw := hw _ rfl b23 b23'
      refine r_aload_n hC dX5_weigh_48 rfl rfl ?_
      refine r_getR hC 0 rfl (by decide) kf5_9 rfl rfl dX5_weigh_49 ?_
      refine r_iload hC dX5_weigh_52 rfl ?_
      refine r_bipush hC dX5_weigh_54 (by decide) ?_
      refine r_imul hC dX5_weigh_56 ?_
      refine r_iload hC dX5_weigh_57 rfl ?_
      refine r_iadd hC dX5_weigh_59 ?_
      obtain ⟨o24, hw⟩ := hw
      refine r_iald hC rfl o24.1 o24.2 (by decide) (by decide) dX5_weigh_60 (fun b26 b26' => ?_)
      replace hw := hw _ rfl b26 b26'
      refine r_i2l hC dX5_weigh_61 (by omega) (by omega) ?_
      refine r_ladd hC dX5_weigh_62 ?_
      obtain ⟨o28, hw⟩ := hw
      refine r_putJ hC 1 rfl (by decide) kf5_34 rfl rfl o28.1 o28.2 dX5_weigh_63 ?_
      replace hw := hw _ rfl
      refine r_iinc hC dX5_weigh_66 rfl (by decide) ?_
      refine r_goto hC 12 dX5_weigh_69 (by decide) ?_
      exact r_subk (hX12 _ _ hw) ⟨rfl, rfl, rfl, rfl, rfl, rfl, trivial⟩
    · have hw := hwf c21
      refine r_iconst hC dX5_weigh_41 ?_
      exact hQ _ _ _ _ dX5_weigh_42 (by decide) (by decide) hw
def w_Slips_weigh_L0 (Q : Int → Mem → Prop) (x2 : Int) (x3 : Int) (x4 : Int) (x5 : Int) (M : Mem) : Prop :=
  ∀ X : Int → Mem → Prop, (∀ (x5 : Int) (M : Mem), w_Slips_weigh_B0 Q x2 x3 x4 X x5 M → X x5 M) → X x5 M
set_option maxRecDepth 100000 in
set_option maxHeartbeats 4000000 in
theorem s_Slips_weigh_L0 {Q : Int → Mem → Prop} {x2 : Int} {x3 : Int} {x4 : Int} {x5 : Int} {M : Mem} (hC : rC p R s m args meth c cells slots D aC ad 7 cX5_weigh RX5 2 48 (some .boolean)) (hQ : ∀ (pc : Nat) (L : List (Nat × RV)) (z : Int) (M : Mem), decode cX5_weigh pc = .ok (.ireturn, 1) → 0 ≤ z → z ≤ 1 → Q z M → rG p l e R s m args below meth c cells slots Qs D aC ad 7 pc L [vI z] M) (hw : w_Slips_weigh_L0 Q x2 x3 x4 x5 M) : rG p l e R s m args below meth c cells slots Qs D aC ad 7 12 [(0, vR 10), (1, vR 1), (2, vI x2), (3, vI x3), (4, vI x4), (5, vI x5)] [] M := by
  unfold w_Slips_weigh_L0 at hw
  exact hw (fun x5 M => rG p l e R s m args below meth c cells slots Qs D aC ad 7 12 [(0, vR 10), (1, vR 1), (2, vI x2), (3, vI x3), (4, vI x4), (5, vI x5)] [] M) (fun x5 M hb => s_Slips_weigh_B0 hC hQ (fun _ _ h => h) hb)
def w_Slips_weigh (M : Mem) (x2 : Int) (x3 : Int) (x4 : Int) (Q : Int → Mem → Prop) : Prop :=
  ∀ M2 : Mem, M2 = mset M 10 1 0 → (-2147483648 ≤ x2 ∧ x2 ≤ 2147483647) ∧ ((-2147483648 ≤ x3 ∧ x3 ≤ 2147483647) ∧ (w_Slips_weigh_L0 Q x2 x3 x4 (min x2 x3) M2))
set_option maxRecDepth 100000 in
set_option maxHeartbeats 4000000 in
theorem s_Slips_weigh {M : Mem} {x2 : Int} {x3 : Int} {x4 : Int} {Q : Int → Mem → Prop} (hC : rC p R s m args meth c cells slots D aC ad 7 cX5_weigh RX5 2 48 (some .boolean)) (hQ : ∀ (pc : Nat) (L : List (Nat × RV)) (z : Int) (M : Mem), decode cX5_weigh pc = .ok (.ireturn, 1) → 0 ≤ z → z ≤ 1 → Q z M → rG p l e R s m args below meth c cells slots Qs D aC ad 7 pc L [vI z] M) (hw : w_Slips_weigh M x2 x3 x4 Q) : rG p l e R s m args below meth c cells slots Qs D aC ad 7 0 [(0, vR 10), (1, vR 1), (2, vI x2), (3, vI x3), (4, vI x4)] [] M := by
  unfold w_Slips_weigh at hw
  refine r_aload_n hC dX5_weigh_0 rfl rfl ?_
  refine r_lconst hC 0 dX5_weigh_1 (by decide) ?_
  refine r_putJ hC 1 rfl (by decide) kf5_34 rfl rfl (by decide) (by decide) dX5_weigh_2 ?_
  replace hw := hw _ rfl
  refine r_iload_n hC dX5_weigh_5 rfl rfl ?_
  refine r_iload_n hC dX5_weigh_6 rfl rfl ?_
  obtain ⟨o3, hw⟩ := hw
  obtain ⟨o4, hw⟩ := hw
  refine r_min hC km5_38 (by decide) (Nat.le_of_ble_eq_true rfl) dX5_weigh_7 o3.1 o3.2 o4.1 o4.2 ?_
  refine r_istore hC dX5_weigh_10 (by decide) ?_
  exact r_subk (s_Slips_weigh_L0 hC hQ hw) ⟨rfl, rfl, rfl, rfl, rfl, rfl, trivial⟩
set_option maxRecDepth 100000 in
set_option maxHeartbeats 4000000 in
theorem d_Slips_weigh {l : Launch} {D : va_G} {aC : Nat → ClassId} {ad : Nat → Nat} {M : Mem} {x2 : Int} {x3 : Int} {x4 : Int} {Q : Int → Mem → Prop} (hw : w_Slips_weigh M x2 x3 x4 Q) : Does l D aC ad yX5_weigh cX5_weigh 7 (some .boolean) 2 48 [vR 10, vR 1, vI x2, vI x3, vI x4] M (pI Q) :=
  Does.of (by decide) (Nat.le_of_ble_eq_true rfl) (fun p e R s m args below meth c hC => r_subk (s_Slips_weigh hC (fun pc L z M d z1 z2 h => r_zret hC d z1 z2 ⟨z, rfl, h⟩) hw) ⟨rfl, rfl, rfl, rfl, rfl, trivial⟩)
theorem dd_0_middleOf : yX0_middleOf.cls ≠ "java/lang/invoke/MethodHandle" ∧ yX0_middleOf.cls ≠ "java/lang/invoke/VarHandle" ∧ (parseMethodDescriptor yX0_middleOf.desc).map (fun d => d.parameters.length) = some 2 := by decide +kernel
theorem dd_5_begin : yX5_begin.cls ≠ "java/lang/invoke/MethodHandle" ∧ yX5_begin.cls ≠ "java/lang/invoke/VarHandle" ∧ (parseMethodDescriptor yX5_begin.desc).map (fun d => d.parameters.length) = some 4 := by decide +kernel
theorem dd_5_weigh : yX5_weigh.cls ≠ "java/lang/invoke/MethodHandle" ∧ yX5_weigh.cls ≠ "java/lang/invoke/VarHandle" ∧ (parseMethodDescriptor yX5_weigh.desc).map (fun d => d.parameters.length) = some 4 := by decide +kernel
/-- SoupSand.margin -/
def w_S_margin (M : Mem) (x1 : Int) (x2 : Int) (x3 : Int) (x4 : Int) (x5 : Int) (Q : Int → Mem → Prop) : Prop :=
  w_Shakes_hasShake M x1 (fun a1 => (-2147483648 ≤ a1 ∧ a1 ≤ 2147483647) ∧ ((a1 = 0 → Q (-1001) M) ∧ (¬ (a1 = 0) → w_Ground_hasLayer M x2 x4 (fun a5 => (-2147483648 ≤ a5 ∧ a5 ≤ 2147483647) ∧ ((a5 = 0 → Q (-1001) M) ∧ (¬ (a5 = 0) → w_Ground_hasColumn M x3 (fun a9 => (-2147483648 ≤ a9 ∧ a9 ≤ 2147483647) ∧ ((¬ (a9 = 0) → (-2147483648 ≤ x2 ∧ x2 ≤ 2147483647) ∧ ((-2147483648 ≤ x3 ∧ x3 ≤ 2147483647) ∧ ((x2 = x3 → Q (-1002) M) ∧ (¬ (x2 = x3) → w_S_beyond M x5 0 2 (fun a16 => (-2147483648 ≤ a16 ∧ a16 ≤ 2147483647) ∧ ((a16 = 0 → w_Ground_middleOf M x2 x4 (fun a20 => (-2147483648 ≤ x5 ∧ x5 ≤ 2147483647) ∧ ((¬ (x5 = 2) → (-2147483648 ≤ x2 ∧ x2 ≤ 2147483647) ∧ ((-2147483648 ≤ x3 ∧ x3 ≤ 2147483647) ∧ ((-2147483648 ≤ x2 ∧ x2 ≤ 2147483647) ∧ ((-2147483648 ≤ x3 ∧ x3 ≤ 2147483647) ∧ (w_Slips_begin M x1 (min x2 x3) (max x2 x3) (fun M29 => w_Slips_weigh M29 x2 x3 a20 (fun a30 M31 => (-2147483648 ≤ a30 ∧ a30 ≤ 2147483647) ∧ ((¬ (a30 = 0) → ∀ a35 : Int, a35 = M31 10 1 → -1125899906842624 ≤ a35 → a35 ≤ 1125899906842624 → ∀ a37 : Int, a37 = M31 10 2 → -1125899906842624 ≤ a37 → a37 ≤ 1125899906842624 → w_S_leastTerms M31 a35 a37 x5 (fun a39 => Q a39 M31)) ∧ (a30 = 0 → Q (-1003) M31))))))))) ∧ (x5 = 2 → (-2147483648 ≤ a20 ∧ a20 ≤ 2147483647) ∧ (Q a20 M))))) ∧ (¬ (a16 = 0) → Q (-1002) M))))))) ∧ (a9 = 0 → Q (-1001) M)))))))))
set_option maxRecDepth 100000 in
set_option maxHeartbeats 4000000 in
theorem s_S_margin {M : Mem} {x1 : Int} {x2 : Int} {x3 : Int} {x4 : Int} {x5 : Int} {Q : Int → Mem → Prop} (hC : rC p R s m args meth c cells slots D aC ad 7 cX11_margin RX11 5 121 (some .long)) (hQ : ∀ (pc : Nat) (L : List (Nat × RV)) (z : Int) (M : Mem), decode cX11_margin pc = .ok (.lreturn, 1) → Q z M → rG p l e R s m args below meth c cells slots Qs D aC ad 7 pc L [vJ z] M) (hw : w_S_margin M x1 x2 x3 x4 x5 Q) : rG p l e R s m args below meth c cells slots Qs D aC ad 7 0 [(0, vR 0), (1, vI x1), (2, vI x2), (3, vI x3), (4, vI x4), (5, vI x5)] [] M := by
  unfold w_S_margin at hw
  refine r_aload_n hC dX11_margin_0 rfl rfl ?_
  refine r_getR hC 2 rfl (by decide) kf11_25 rfl rfl dX11_margin_1 ?_
  refine r_iload_n hC dX11_margin_4 rfl rfl ?_
  refine r_callV hC (d_Shakes_hasShake hw) rfl kC4_hasShake km11_147 kI4_hasShake kS4_hasShake kN4 dd_4_hasShake ⟨Nat.le_of_ble_eq_true rfl, Nat.le_of_ble_eq_true rfl⟩ rfl (Nat.le_of_ble_eq_true rfl) dX11_margin_5 (fun r M' hp => ?_)
  obtain ⟨rfl, a1, rfl, hw⟩ := hp
  try dsimp only at hw
  obtain ⟨o2, hw⟩ := hw
  obtain ⟨hwt, hwf⟩ := hw
  refine r_if_eq hC 35 dX11_margin_8 (by decide) o2.1 o2.2 (fun c4 => ?_) (fun c4 => ?_)
  · have hw := hwt c4
    refine r_ldc2 hC (-1001) dX11_margin_35 kL11_222 (by decide) ?_
    exact hQ _ _ _ _ dX11_margin_38 hw
  · have hw := hwf c4
    refine r_aload_n hC dX11_margin_11 rfl rfl ?_
    refine r_getR hC 1 rfl (by decide) kf11_20 rfl rfl dX11_margin_12 ?_
    refine r_iload_n hC dX11_margin_15 rfl rfl ?_
    refine r_iload hC dX11_margin_16 rfl ?_
    refine r_callV hC (d_Ground_hasLayer hw) rfl kC0_hasLayer km11_107 kI0_hasLayer kS0_hasLayer kN0 dd_0_hasLayer ⟨Nat.le_of_ble_eq_true rfl, Nat.le_of_ble_eq_true rfl⟩ rfl (Nat.le_of_ble_eq_true rfl) dX11_margin_18 (fun r M' hp => ?_)
    obtain ⟨rfl, a5, rfl, hw⟩ := hp
    try dsimp only at hw
    obtain ⟨o6, hw⟩ := hw
    obtain ⟨hwt, hwf⟩ := hw
    refine r_if_eq hC 35 dX11_margin_21 (by decide) o6.1 o6.2 (fun c8 => ?_) (fun c8 => ?_)
    · have hw := hwt c8
      refine r_ldc2 hC (-1001) dX11_margin_35 kL11_222 (by decide) ?_
      exact hQ _ _ _ _ dX11_margin_38 hw
    · have hw := hwf c8
      refine r_aload_n hC dX11_margin_24 rfl rfl ?_
      refine r_getR hC 1 rfl (by decide) kf11_20 rfl rfl dX11_margin_25 ?_
      refine r_iload_n hC dX11_margin_28 rfl rfl ?_
      refine r_callV hC (d_Ground_hasColumn hw) rfl kC0_hasColumn km11_80 kI0_hasColumn kS0_hasColumn kN0 dd_0_hasColumn ⟨Nat.le_of_ble_eq_true rfl, Nat.le_of_ble_eq_true rfl⟩ rfl (Nat.le_of_ble_eq_true rfl) dX11_margin_29 (fun r M' hp => ?_)
      obtain ⟨rfl, a9, rfl, hw⟩ := hp
      try dsimp only at hw
      obtain ⟨o10, hw⟩ := hw
      obtain ⟨hwt, hwf⟩ := hw
      refine r_if_ne hC 39 dX11_margin_32 (by decide) o10.1 o10.2 (fun c12 => ?_) (fun c12 => ?_)
      · have hw := hwt c12
        refine r_iload_n hC dX11_margin_39 rfl rfl ?_
        refine r_iload_n hC dX11_margin_40 rfl rfl ?_
        obtain ⟨o13, hw⟩ := hw
        obtain ⟨o14, hw⟩ := hw
        obtain ⟨hwt, hwf⟩ := hw
        refine r_icmp_eq hC 54 dX11_margin_41 (by decide) o13.1 o13.2 o14.1 o14.2 (fun c15 => ?_) (fun c15 => ?_)
        · have hw := hwt c15
          refine r_ldc2 hC (-1002) dX11_margin_54 kL11_224 (by decide) ?_
          exact hQ _ _ _ _ dX11_margin_57 hw
        · have hw := hwf c15
          refine r_iload hC dX11_margin_44 rfl ?_
          refine r_iconst hC dX11_margin_46 ?_
          refine r_iconst hC dX11_margin_47 ?_
          refine r_callS hC (d_S_beyond hw) kC11_beyond km11_86 kT11_beyond kN11 dd_11_beyond ⟨Nat.le_of_ble_eq_true rfl, Nat.le_of_ble_eq_true rfl⟩ rfl (Nat.le_of_ble_eq_true rfl) dX11_margin_48 (fun r M' hp => ?_)
          obtain ⟨rfl, a16, rfl, hw⟩ := hp
          try dsimp only at hw
          obtain ⟨o17, hw⟩ := hw
          obtain ⟨hwt, hwf⟩ := hw
          refine r_if_eq hC 58 dX11_margin_51 (by decide) o17.1 o17.2 (fun c19 => ?_) (fun c19 => ?_)
          · have hw := hwt c19
            refine r_aload_n hC dX11_margin_58 rfl rfl ?_
            refine r_getR hC 1 rfl (by decide) kf11_20 rfl rfl dX11_margin_59 ?_
            refine r_iload_n hC dX11_margin_62 rfl rfl ?_
            refine r_iload hC dX11_margin_63 rfl ?_
            refine r_callV hC (d_Ground_middleOf hw) rfl kC0_middleOf km11_331 kI0_middleOf kS0_middleOf kN0 dd_0_middleOf ⟨Nat.le_of_ble_eq_true rfl, Nat.le_of_ble_eq_true rfl⟩ rfl (Nat.le_of_ble_eq_true rfl) dX11_margin_65 (fun r M' hp => ?_)
            obtain ⟨rfl, a20, rfl, hw⟩ := hp
            try dsimp only at hw
            refine r_istore hC dX11_margin_68 (by decide) ?_
            refine r_iload hC dX11_margin_70 rfl ?_
            refine r_iconst hC dX11_margin_72 ?_
            obtain ⟨o21, hw⟩ := hw
            obtain ⟨hwt, hwf⟩ := hw
            refine r_icmp_ne hC 80 dX11_margin_73 (by decide) o21.1 o21.2 (by decide) (by decide) (fun c23 => ?_) (fun c23 => ?_)
            · have hw := hwt c23
              refine r_aload_n hC dX11_margin_80 rfl rfl ?_
              refine r_getR hC 9 rfl (by decide) kf11_69 rfl rfl dX11_margin_81 ?_
              refine r_aload_n hC dX11_margin_84 rfl rfl ?_
              refine r_getR hC 0 rfl (by decide) kf11_10 rfl rfl dX11_margin_85 ?_
              refine r_iload_n hC dX11_margin_88 rfl rfl ?_
              refine r_iload_n hC dX11_margin_89 rfl rfl ?_
              refine r_iload_n hC dX11_margin_90 rfl rfl ?_
              obtain ⟨o24, hw⟩ := hw
              obtain ⟨o25, hw⟩ := hw
              refine r_min hC km11_334 (by decide) (Nat.le_of_ble_eq_true rfl) dX11_margin_91 o24.1 o24.2 o25.1 o25.2 ?_
              refine r_iload_n hC dX11_margin_94 rfl rfl ?_
              refine r_iload_n hC dX11_margin_95 rfl rfl ?_
              obtain ⟨o26, hw⟩ := hw
              obtain ⟨o27, hw⟩ := hw
              refine r_max hC km11_337 (by decide) (Nat.le_of_ble_eq_true rfl) dX11_margin_96 o26.1 o26.2 o27.1 o27.2 ?_
              refine r_callV hC (d_Slips_begin hw) rfl kC5_begin km11_340 kI5_begin kS5_begin kN5 dd_5_begin ⟨Nat.le_of_ble_eq_true rfl, Nat.le_of_ble_eq_true rfl⟩ rfl (Nat.le_of_ble_eq_true rfl) dX11_margin_99 (fun r M' hp => ?_)
              obtain ⟨rfl, hw⟩ := hp
              try dsimp only at hw
              refine r_aload_n hC dX11_margin_102 rfl rfl ?_
              refine r_getR hC 9 rfl (by decide) kf11_69 rfl rfl dX11_margin_103 ?_
              refine r_aload_n hC dX11_margin_106 rfl rfl ?_
              refine r_getR hC 0 rfl (by decide) kf11_10 rfl rfl dX11_margin_107 ?_
              refine r_iload_n hC dX11_margin_110 rfl rfl ?_
              refine r_iload_n hC dX11_margin_111 rfl rfl ?_
              refine r_iload hC dX11_margin_112 rfl ?_
              refine r_callV hC (d_Slips_weigh hw) rfl kC5_weigh km11_343 kI5_weigh kS5_weigh kN5 dd_5_weigh ⟨Nat.le_of_ble_eq_true rfl, Nat.le_of_ble_eq_true rfl⟩ rfl (Nat.le_of_ble_eq_true rfl) dX11_margin_114 (fun r M' hp => ?_)
              obtain ⟨a30, rfl, hw⟩ := hp
              try dsimp only at hw
              obtain ⟨o32, hw⟩ := hw
              obtain ⟨hwt, hwf⟩ := hw
              refine r_if_ne hC 124 dX11_margin_117 (by decide) o32.1 o32.2 (fun c34 => ?_) (fun c34 => ?_)
              · have hw := hwt c34
                refine r_aload_n hC dX11_margin_124 rfl rfl ?_
                refine r_getR hC 9 rfl (by decide) kf11_69 rfl rfl dX11_margin_125 ?_
                refine r_getJ hC 1 rfl (by decide) kf11_349 rfl rfl dX11_margin_128 (fun b36 b36' => ?_)
                replace hw := hw _ rfl b36 b36'
                refine r_aload_n hC dX11_margin_131 rfl rfl ?_
                refine r_getR hC 9 rfl (by decide) kf11_69 rfl rfl dX11_margin_132 ?_
                refine r_getJ hC 2 rfl (by decide) kf11_353 rfl rfl dX11_margin_135 (fun b38 b38' => ?_)
                replace hw := hw _ rfl b38 b38'
                refine r_iload hC dX11_margin_138 rfl ?_
                refine r_callS hC (d_S_leastTerms hw) kC11_leastTerms km11_356 kT11_leastTerms kN11 dd_11_leastTerms ⟨Nat.le_of_ble_eq_true rfl, Nat.le_of_ble_eq_true rfl⟩ rfl (Nat.le_of_ble_eq_true rfl) dX11_margin_140 (fun r M' hp => ?_)
                obtain ⟨rfl, a39, rfl, hw⟩ := hp
                try dsimp only at hw
                exact hQ _ _ _ _ dX11_margin_143 hw
              · have hw := hwf c34
                refine r_ldc2 hC (-1003) dX11_margin_120 kL11_347 (by decide) ?_
                exact hQ _ _ _ _ dX11_margin_123 hw
            · have hw := hwf c23
              refine r_iload hC dX11_margin_76 rfl ?_
              obtain ⟨o40, hw⟩ := hw
              refine r_i2l hC dX11_margin_78 o40.1 o40.2 ?_
              exact hQ _ _ _ _ dX11_margin_79 hw
          · have hw := hwf c19
            refine r_ldc2 hC (-1002) dX11_margin_54 kL11_224 (by decide) ?_
            exact hQ _ _ _ _ dX11_margin_57 hw
      · have hw := hwf c12
        refine r_ldc2 hC (-1001) dX11_margin_35 kL11_222 (by decide) ?_
        exact hQ _ _ _ _ dX11_margin_38 hw
set_option maxRecDepth 100000 in
set_option maxHeartbeats 4000000 in
theorem d_S_margin {l : Launch} {D : va_G} {aC : Nat → ClassId} {ad : Nat → Nat} {M : Mem} {x1 : Int} {x2 : Int} {x3 : Int} {x4 : Int} {x5 : Int} {Q : Int → Mem → Prop} (hw : w_S_margin M x1 x2 x3 x4 x5 Q) : Does l D aC ad yX11_margin cX11_margin 7 (some .long) 5 121 [vR 0, vI x1, vI x2, vI x3, vI x4, vI x5] M (pJ Q) :=
  Does.of (by decide) (Nat.le_of_ble_eq_true rfl) (fun p e R s m args below meth c hC => r_subk (s_S_margin hC (fun pc L z M d h => r_lret hC d ⟨z, rfl, h⟩) hw) ⟨rfl, rfl, rfl, rfl, rfl, rfl, trivial⟩)
/-- SoupSand$Slips.findLeastBetween -/
def w_Slips_findLeastBetween_j0 (Q : Mem → Prop) (X3 : Int → Mem → Prop) (x2 : Int) (x3 : Int) (x4 : Int) (M : Mem) : Prop :=
  (-1 ≤ x2 ∧ x2 ≤ 5) ∧ (∀ M2 : Mem, M2 = mset M 10 3 x2 → (0 ≤ x3 ∧ x3 ≤ 5) ∧ (∀ M4 : Mem, M4 = mset M2 10 4 x3 → (0 ≤ x4 ∧ x4 ≤ 5) ∧ (∀ M6 : Mem, M6 = mset M4 10 5 x4 → ∀ a7 : Int, a7 = M6 10 1 → -1125899906842624 ≤ a7 → a7 ≤ 1125899906842624 → ∀ M10 : Mem, M10 = mset M6 10 6 a7 → ∀ a11 : Int, a11 = M10 10 2 → -1125899906842624 ≤ a11 → a11 ≤ 1125899906842624 → ∀ M14 : Mem, M14 = mset M10 10 7 a11 → X3 (x4 + 1) M14)))
set_option maxRecDepth 100000 in
set_option maxHeartbeats 4000000 in
theorem s_Slips_findLeastBetween_j0 {Q : Mem → Prop} {X3 : Int → Mem → Prop} {x2 : Int} {x3 : Int} {x4 : Int} {M : Mem} (hC : rC p R s m args meth c cells slots D aC ad 5 cX5_findLeastBetween RX5 3 74 none) (hQ : ∀ (pc : Nat) (L : List (Nat × RV)) (M : Mem), decode cX5_findLeastBetween pc = .ok (.return_, 1) → Q M → rG p l e R s m args below meth c cells slots Qs D aC ad 5 pc L [] M) (hX3 : ∀ (x4 : Int) (M : Mem), X3 x4 M → rG p l e R s m args below meth c cells slots Qs D aC ad 5 3 [(0, vR 10), (1, vR 1), (2, vI x2), (3, vI x3), (4, vI x4)] [] M) (hw : w_Slips_findLeastBetween_j0 Q X3 x2 x3 x4 M) : rG p l e R s m args below meth c cells slots Qs D aC ad 5 73 [(0, vR 10), (1, vR 1), (2, vI x2), (3, vI x3), (4, vI x4)] [] M := by
  unfold w_Slips_findLeastBetween_j0 at hw
  refine r_aload_n hC dX5_findLeastBetween_73 rfl rfl ?_
  refine r_iload_n hC dX5_findLeastBetween_74 rfl rfl ?_
  obtain ⟨o1, hw⟩ := hw
  refine r_putI hC 3 rfl (by decide) kf5_61 rfl rfl o1.1 o1.2 dX5_findLeastBetween_75 ?_
  replace hw := hw _ rfl
  refine r_aload_n hC dX5_findLeastBetween_78 rfl rfl ?_
  refine r_iload_n hC dX5_findLeastBetween_79 rfl rfl ?_
  obtain ⟨o3, hw⟩ := hw
  refine r_putI hC 4 rfl (by decide) kf5_82 rfl rfl o3.1 o3.2 dX5_findLeastBetween_80 ?_
  replace hw := hw _ rfl
  refine r_aload_n hC dX5_findLeastBetween_83 rfl rfl ?_
  refine r_iload hC dX5_findLeastBetween_84 rfl ?_
  obtain ⟨o5, hw⟩ := hw
  refine r_putI hC 5 rfl (by decide) kf5_85 rfl rfl o5.1 o5.2 dX5_findLeastBetween_86 ?_
  replace hw := hw _ rfl
  refine r_aload_n hC dX5_findLeastBetween_89 rfl rfl ?_
  refine r_aload_n hC dX5_findLeastBetween_90 rfl rfl ?_
  refine r_getJ hC 1 rfl (by decide) kf5_34 rfl rfl dX5_findLeastBetween_91 (fun b8 b8' => ?_)
  replace hw := hw _ rfl b8 b8'
  refine r_putJ hC 6 rfl (by decide) kf5_79 rfl rfl (by omega) (by omega) dX5_findLeastBetween_94 ?_
  replace hw := hw _ rfl
  refine r_aload_n hC dX5_findLeastBetween_97 rfl rfl ?_
  refine r_aload_n hC dX5_findLeastBetween_98 rfl rfl ?_
  refine r_getJ hC 2 rfl (by decide) kf5_58 rfl rfl dX5_findLeastBetween_99 (fun b12 b12' => ?_)
  replace hw := hw _ rfl b12 b12'
  refine r_putJ hC 7 rfl (by decide) kf5_76 rfl rfl (by omega) (by omega) dX5_findLeastBetween_102 ?_
  replace hw := hw _ rfl
  refine r_iinc hC dX5_findLeastBetween_105 rfl (by decide) ?_
  refine r_goto hC 3 dX5_findLeastBetween_108 (by decide) ?_
  exact r_subk (hX3 _ _ hw) ⟨rfl, rfl, rfl, rfl, rfl, trivial⟩
def w_Slips_findLeastBetween_B0 (Q : Mem → Prop) (x2 : Int) (x3 : Int) (X3 : Int → Mem → Prop) (x4 : Int) (M : Mem) : Prop :=
  (0 ≤ x2 ∧ x2 < 6) ∧ (∀ a2 : Int, a2 = M 21 x2 → 0 ≤ a2 → a2 ≤ 6 → (-2147483648 ≤ x4 ∧ x4 ≤ 2147483647) ∧ ((a2 ≤ x4 → Q M) ∧ (¬ (a2 ≤ x4) → w_Ground_middleOf M x2 x4 (fun a7 => w_Slips_weigh M x2 x3 a7 (fun a8 M9 => (-2147483648 ≤ a8 ∧ a8 ≤ 2147483647) ∧ ((¬ (a8 = 0) → ∀ a13 : Int, a13 = M9 10 3 → -1 ≤ a13 → a13 ≤ 5 → (a13 = (-1) → w_Slips_findLeastBetween_j0 Q X3 x2 x3 x4 M9) ∧ (¬ (a13 = (-1)) → ∀ a18 : Int, a18 = M9 10 1 → -1125899906842624 ≤ a18 → a18 ≤ 1125899906842624 → ∀ a20 : Int, a20 = M9 10 7 → -1125899906842624 ≤ a20 → a20 ≤ 1125899906842624 → ∀ a22 : Int, a22 = M9 10 6 → -1125899906842624 ≤ a22 → a22 ≤ 1125899906842624 → ∀ a24 : Int, a24 = M9 10 2 → -1125899906842624 ≤ a24 → a24 ≤ 1125899906842624 → (-9223372036854775808 ≤ a18 * a20 ∧ a18 * a20 ≤ 9223372036854775807) ∧ ((-9223372036854775808 ≤ a22 * a24 ∧ a22 * a24 ≤ 9223372036854775807) ∧ ((a18 * a20 < a22 * a24 → w_Slips_findLeastBetween_j0 Q X3 x2 x3 x4 M9) ∧ (¬ (a18 * a20 < a22 * a24) → X3 (x4 + 1) M9))))) ∧ (a8 = 0 → X3 (x4 + 1) M9)))))))
set_option maxRecDepth 100000 in
set_option maxHeartbeats 4000000 in
theorem s_Slips_findLeastBetween_B0 {Q : Mem → Prop} {x2 : Int} {x3 : Int} {X3 : Int → Mem → Prop} {x4 : Int} {M : Mem} (hC : rC p R s m args meth c cells slots D aC ad 5 cX5_findLeastBetween RX5 3 74 none) (hQ : ∀ (pc : Nat) (L : List (Nat × RV)) (M : Mem), decode cX5_findLeastBetween pc = .ok (.return_, 1) → Q M → rG p l e R s m args below meth c cells slots Qs D aC ad 5 pc L [] M) (hX3 : ∀ (x4 : Int) (M : Mem), X3 x4 M → rG p l e R s m args below meth c cells slots Qs D aC ad 5 3 [(0, vR 10), (1, vR 1), (2, vI x2), (3, vI x3), (4, vI x4)] [] M) (hw : w_Slips_findLeastBetween_B0 Q x2 x3 X3 x4 M) : rG p l e R s m args below meth c cells slots Qs D aC ad 5 3 [(0, vR 10), (1, vR 1), (2, vI x2), (3, vI x3), (4, vI x4)] [] M := by
  unfold w_Slips_findLeastBetween_B0 at hw
  refine r_iload hC dX5_findLeastBetween_3 rfl ?_
  refine r_aload_n hC dX5_findLeastBetween_5 rfl rfl ?_
  refine r_getR hC 0 rfl (by decide) kf5_21 rfl rfl dX5_findLeastBetween_6 ?_
  refine r_getR hC 2 rfl (by decide) kf5_25 rfl rfl dX5_findLeastBetween_9 ?_
  refine r_iload_n hC dX5_findLeastBetween_12 rfl rfl ?_
  obtain ⟨o1, hw⟩ := hw
  refine r_iald hC rfl o1.1 o1.2 (by decide) (by decide) dX5_findLeastBetween_13 (fun b3 b3' => ?_)
  replace hw := hw _ rfl b3 b3'
  obtain ⟨o4, hw⟩ := hw
  obtain ⟨hwt, hwf⟩ := hw
  refine r_icmp_ge hC 111 dX5_findLeastBetween_14 (by decide) o4.1 o4.2 (by omega) (by omega) (fun c6 => ?_) (fun c6 => ?_)
  · have hw := hwt c6
    exact hQ _ _ _ dX5_findLeastBetween_111 hw
  · have hw := hwf c6
    refine r_aload_n hC dX5_findLeastBetween_17 rfl rfl ?_
    refine r_aload_n hC dX5_findLeastBetween_18 rfl rfl ?_
    refine r_iload_n hC dX5_findLeastBetween_19 rfl rfl ?_
    refine r_iload_n hC dX5_findLeastBetween_20 rfl rfl ?_
    refine r_aload_n hC dX5_findLeastBetween_21 rfl rfl ?_
    refine r_getR hC 0 rfl (by decide) kf5_21 rfl rfl dX5_findLeastBetween_22 ?_
    refine r_iload_n hC dX5_findLeastBetween_25 rfl rfl ?_
    refine r_iload hC dX5_findLeastBetween_26 rfl ?_
    refine r_callV hC (d_Ground_middleOf hw) rfl kC0_middleOf km5_69 kI0_middleOf kS0_middleOf kN0 dd_0_middleOf ⟨Nat.le_of_ble_eq_true rfl, Nat.le_of_ble_eq_true rfl⟩ rfl (Nat.le_of_ble_eq_true rfl) dX5_findLeastBetween_28 (fun r M' hp => ?_)
    obtain ⟨rfl, a7, rfl, hw⟩ := hp
    try dsimp only at hw
    refine r_callV hC (d_Slips_weigh hw) rfl kC5_weigh km5_72 kI5_weigh kS5_weigh kN5 dd_5_weigh ⟨Nat.le_of_ble_eq_true rfl, Nat.le_of_ble_eq_true rfl⟩ rfl (Nat.le_of_ble_eq_true rfl) dX5_findLeastBetween_31 (fun r M' hp => ?_)
    obtain ⟨a8, rfl, hw⟩ := hp
    try dsimp only at hw
    obtain ⟨o10, hw⟩ := hw
    obtain ⟨hwt, hwf⟩ := hw
    refine r_if_ne hC 40 dX5_findLeastBetween_34 (by decide) o10.1 o10.2 (fun c12 => ?_) (fun c12 => ?_)
    · have hw := hwt c12
      refine r_aload_n hC dX5_findLeastBetween_40 rfl rfl ?_
      refine r_getI hC 3 rfl (by decide) kf5_61 rfl rfl dX5_findLeastBetween_41 (fun b14 b14' => ?_)
      replace hw := hw _ rfl b14 b14'
      refine r_iconst hC dX5_findLeastBetween_44 ?_
      obtain ⟨hwt, hwf⟩ := hw
      refine r_icmp_eq hC 73 dX5_findLeastBetween_45 (by decide) (by omega) (by omega) (by decide) (by decide) (fun c17 => ?_) (fun c17 => ?_)
      · have hw := hwt c17
        exact r_subk (s_Slips_findLeastBetween_j0 hC hQ hX3 hw) ⟨rfl, rfl, rfl, rfl, rfl, trivial⟩
      · have hw := hwf c17
        refine r_aload_n hC dX5_findLeastBetween_48 rfl rfl ?_
        refine r_getJ hC 1 rfl (by decide) kf5_34 rfl rfl dX5_findLeastBetween_49 (fun b19 b19' => ?_)
        replace hw := hw _ rfl b19 b19'
        refine r_aload_n hC dX5_findLeastBetween_52 rfl rfl ?_
        refine r_getJ hC 7 rfl (by decide) kf5_76 rfl rfl dX5_findLeastBetween_53 (fun b21 b21' => ?_)
        replace hw := hw _ rfl b21 b21'
        refine r_lmul hC dX5_findLeastBetween_56 ?_
        refine r_aload_n hC dX5_findLeastBetween_57 rfl rfl ?_
        refine r_getJ hC 6 rfl (by decide) kf5_79 rfl rfl dX5_findLeastBetween_58 (fun b23 b23' => ?_)
        replace hw := hw _ rfl b23 b23'
        refine r_aload_n hC dX5_findLeastBetween_61 rfl rfl ?_
        refine r_getJ hC 2 rfl (by decide) kf5_58 rfl rfl dX5_findLeastBetween_62 (fun b25 b25' => ?_)
        replace hw := hw _ rfl b25 b25'
        refine r_lmul hC dX5_findLeastBetween_65 ?_
        obtain ⟨o26, hw⟩ := hw
        obtain ⟨o27, hw⟩ := hw
        obtain ⟨hwt, hwf⟩ := hw
        refine r_lcmp_lt hC 73 dX5_findLeastBetween_66 dX5_findLeastBetween_67 (by decide) o26.1 o26.2 o27.1 o27.2 (fun c28 => ?_) (fun c28 => ?_)
        · have hw := hwt c28
          exact r_subk (s_Slips_findLeastBetween_j0 hC hQ hX3 hw) ⟨rfl, rfl, rfl, rfl, rfl, trivial⟩
        · have hw := hwf c28
          refine r_goto hC 105 dX5_findLeastBetween_70 (by decide) ?_
          refine r_iinc hC dX5_findLeastBetween_105 rfl (by decide) ?_
          refine r_goto hC 3 dX5_findLeastBetween_108 (by decide) ?_
          exact r_subk (hX3 _ _ hw) ⟨rfl, rfl, rfl, rfl, rfl, trivial⟩
    · have hw := hwf c12
      refine r_goto hC 105 dX5_findLeastBetween_37 (by decide) ?_
      refine r_iinc hC dX5_findLeastBetween_105 rfl (by decide) ?_
      refine r_goto hC 3 dX5_findLeastBetween_108 (by decide) ?_
      exact r_subk (hX3 _ _ hw) ⟨rfl, rfl, rfl, rfl, rfl, trivial⟩
def w_Slips_findLeastBetween_L0 (Q : Mem → Prop) (x2 : Int) (x3 : Int) (x4 : Int) (M : Mem) : Prop :=
  ∀ X : Int → Mem → Prop, (∀ (x4 : Int) (M : Mem), w_Slips_findLeastBetween_B0 Q x2 x3 X x4 M → X x4 M) → X x4 M
set_option maxRecDepth 100000 in
set_option maxHeartbeats 4000000 in
theorem s_Slips_findLeastBetween_L0 {Q : Mem → Prop} {x2 : Int} {x3 : Int} {x4 : Int} {M : Mem} (hC : rC p R s m args meth c cells slots D aC ad 5 cX5_findLeastBetween RX5 3 74 none) (hQ : ∀ (pc : Nat) (L : List (Nat × RV)) (M : Mem), decode cX5_findLeastBetween pc = .ok (.return_, 1) → Q M → rG p l e R s m args below meth c cells slots Qs D aC ad 5 pc L [] M) (hw : w_Slips_findLeastBetween_L0 Q x2 x3 x4 M) : rG p l e R s m args below meth c cells slots Qs D aC ad 5 3 [(0, vR 10), (1, vR 1), (2, vI x2), (3, vI x3), (4, vI x4)] [] M := by
  unfold w_Slips_findLeastBetween_L0 at hw
  exact hw (fun x4 M => rG p l e R s m args below meth c cells slots Qs D aC ad 5 3 [(0, vR 10), (1, vR 1), (2, vI x2), (3, vI x3), (4, vI x4)] [] M) (fun x4 M hb => s_Slips_findLeastBetween_B0 hC hQ (fun _ _ h => h) hb)
def w_Slips_findLeastBetween (M : Mem) (x2 : Int) (x3 : Int) (Q : Mem → Prop) : Prop :=
  w_Slips_findLeastBetween_L0 Q x2 x3 0 M
set_option maxRecDepth 100000 in
set_option maxHeartbeats 4000000 in
theorem s_Slips_findLeastBetween {M : Mem} {x2 : Int} {x3 : Int} {Q : Mem → Prop} (hC : rC p R s m args meth c cells slots D aC ad 5 cX5_findLeastBetween RX5 3 74 none) (hQ : ∀ (pc : Nat) (L : List (Nat × RV)) (M : Mem), decode cX5_findLeastBetween pc = .ok (.return_, 1) → Q M → rG p l e R s m args below meth c cells slots Qs D aC ad 5 pc L [] M) (hw : w_Slips_findLeastBetween M x2 x3 Q) : rG p l e R s m args below meth c cells slots Qs D aC ad 5 0 [(0, vR 10), (1, vR 1), (2, vI x2), (3, vI x3)] [] M := by
  unfold w_Slips_findLeastBetween at hw
  refine r_iconst hC dX5_findLeastBetween_0 ?_
  refine r_istore hC dX5_findLeastBetween_1 (by decide) ?_
  exact r_subk (s_Slips_findLeastBetween_L0 hC hQ hw) ⟨rfl, rfl, rfl, rfl, rfl, trivial⟩
set_option maxRecDepth 100000 in
set_option maxHeartbeats 4000000 in
theorem d_Slips_findLeastBetween {l : Launch} {D : va_G} {aC : Nat → ClassId} {ad : Nat → Nat} {M : Mem} {x2 : Int} {x3 : Int} {Q : Mem → Prop} (hw : w_Slips_findLeastBetween M x2 x3 Q) : Does l D aC ad yX5_findLeastBetween cX5_findLeastBetween 5 none 3 74 [vR 10, vR 1, vI x2, vI x3] M (pV Q) :=
  Does.of (by decide) (Nat.le_of_ble_eq_true rfl) (fun p e R s m args below meth c hC => r_subk (s_Slips_findLeastBetween hC (fun pc L M d h => r_vret hC d ⟨rfl, h⟩) hw) ⟨rfl, rfl, rfl, rfl, trivial⟩)
theorem dd_5_findLeastBetween : yX5_findLeastBetween.cls ≠ "java/lang/invoke/MethodHandle" ∧ yX5_findLeastBetween.cls ≠ "java/lang/invoke/VarHandle" ∧ (parseMethodDescriptor yX5_findLeastBetween.desc).map (fun d => d.parameters.length) = some 3 := by decide +kernel
/-- SoupSand$Slips.findLeast -/
def w_Slips_findLeast_B1 (Q : Mem → Prop) (X7 : Int → Mem → Prop) (x2 : Int) (X15 : Int → Mem → Prop) (x3 : Int) (M : Mem) : Prop :=
  (-2147483648 ≤ x3 ∧ x3 ≤ 2147483647) ∧ ((6 ≤ x3 → X7 (x2 + 1) M) ∧ (¬ (6 ≤ x3) → (-2147483648 ≤ x2 ∧ x2 ≤ 2147483647) ∧ ((-2147483648 ≤ x3 ∧ x3 ≤ 2147483647) ∧ ((x2 = x3 → X15 (x3 + 1) M) ∧ (¬ (x2 = x3) → w_Slips_findLeastBetween M x2 x3 (fun M8 => X15 (x3 + 1) M8))))))
set_option maxRecDepth 100000 in
set_option maxHeartbeats 4000000 in
theorem s_Slips_findLeast_B1 {Q : Mem → Prop} {X7 : Int → Mem → Prop} {x2 : Int} {X15 : Int → Mem → Prop} {x3 : Int} {M : Mem} (hC : rC p R s m args meth c cells slots D aC ad 4 cX5_findLeast RX5 4 98 none) (hQ : ∀ (pc : Nat) (L : List (Nat × RV)) (M : Mem), decode cX5_findLeast pc = .ok (.return_, 1) → Q M → rG p l e R s m args below meth c cells slots Qs D aC ad 4 pc L [] M) (hX7 : ∀ (x2 : Int) (M : Mem), X7 x2 M → rG p l e R s m args below meth c cells slots Qs D aC ad 4 7 [(0, vR 10), (1, vR 1), (2, vI x2)] [] M) (hX15 : ∀ (x3 : Int) (M : Mem), X15 x3 M → rG p l e R s m args below meth c cells slots Qs D aC ad 4 15 [(0, vR 10), (1, vR 1), (2, vI x2), (3, vI x3)] [] M) (hw : w_Slips_findLeast_B1 Q X7 x2 X15 x3 M) : rG p l e R s m args below meth c cells slots Qs D aC ad 4 15 [(0, vR 10), (1, vR 1), (2, vI x2), (3, vI x3)] [] M := by
  unfold w_Slips_findLeast_B1 at hw
  refine r_iload_n hC dX5_findLeast_15 rfl rfl ?_
  refine r_bipush hC dX5_findLeast_16 (by decide) ?_
  obtain ⟨o1, hw⟩ := hw
  obtain ⟨hwt, hwf⟩ := hw
  refine r_icmp_ge hC 39 dX5_findLeast_18 (by decide) o1.1 o1.2 (by decide) (by decide) (fun c3 => ?_) (fun c3 => ?_)
  · have hw := hwt c3
    refine r_iinc hC dX5_findLeast_39 rfl (by decide) ?_
    refine r_goto hC 7 dX5_findLeast_42 (by decide) ?_
    exact r_subk (hX7 _ _ hw) ⟨rfl, rfl, rfl, trivial⟩
  · have hw := hwf c3
    refine r_iload_n hC dX5_findLeast_21 rfl rfl ?_
    refine r_iload_n hC dX5_findLeast_22 rfl rfl ?_
    obtain ⟨o4, hw⟩ := hw
    obtain ⟨o5, hw⟩ := hw
    obtain ⟨hwt, hwf⟩ := hw
    refine r_icmp_eq hC 33 dX5_findLeast_23 (by decide) o4.1 o4.2 o5.1 o5.2 (fun c6 => ?_) (fun c6 => ?_)
    · have hw := hwt c6
      refine r_iinc hC dX5_findLeast_33 rfl (by decide) ?_
      refine r_goto hC 15 dX5_findLeast_36 (by decide) ?_
      exact r_subk (hX15 _ _ hw) ⟨rfl, rfl, rfl, rfl, trivial⟩
    · have hw := hwf c6
      refine r_aload_n hC dX5_findLeast_26 rfl rfl ?_
      refine r_aload_n hC dX5_findLeast_27 rfl rfl ?_
      refine r_iload_n hC dX5_findLeast_28 rfl rfl ?_
      refine r_iload_n hC dX5_findLeast_29 rfl rfl ?_
      refine r_callV hC (d_Slips_findLeastBetween hw) rfl kC5_findLeastBetween km5_65 kI5_findLeastBetween kS5_findLeastBetween kN5 dd_5_findLeastBetween ⟨Nat.le_of_ble_eq_true rfl, Nat.le_of_ble_eq_true rfl⟩ rfl (Nat.le_of_ble_eq_true rfl) dX5_findLeast_30 (fun r M' hp => ?_)
      obtain ⟨rfl, hw⟩ := hp
      try dsimp only at hw
      refine r_iinc hC dX5_findLeast_33 rfl (by decide) ?_
      refine r_goto hC 15 dX5_findLeast_36 (by decide) ?_
      exact r_subk (hX15 _ _ hw) ⟨rfl, rfl, rfl, rfl, trivial⟩
def w_Slips_findLeast_L1 (Q : Mem → Prop) (X7 : Int → Mem → Prop) (x2 : Int) (x3 : Int) (M : Mem) : Prop :=
  ∀ X : Int → Mem → Prop, (∀ (x3 : Int) (M : Mem), w_Slips_findLeast_B1 Q X7 x2 X x3 M → X x3 M) → X x3 M
set_option maxRecDepth 100000 in
set_option maxHeartbeats 4000000 in
theorem s_Slips_findLeast_L1 {Q : Mem → Prop} {X7 : Int → Mem → Prop} {x2 : Int} {x3 : Int} {M : Mem} (hC : rC p R s m args meth c cells slots D aC ad 4 cX5_findLeast RX5 4 98 none) (hQ : ∀ (pc : Nat) (L : List (Nat × RV)) (M : Mem), decode cX5_findLeast pc = .ok (.return_, 1) → Q M → rG p l e R s m args below meth c cells slots Qs D aC ad 4 pc L [] M) (hX7 : ∀ (x2 : Int) (M : Mem), X7 x2 M → rG p l e R s m args below meth c cells slots Qs D aC ad 4 7 [(0, vR 10), (1, vR 1), (2, vI x2)] [] M) (hw : w_Slips_findLeast_L1 Q X7 x2 x3 M) : rG p l e R s m args below meth c cells slots Qs D aC ad 4 15 [(0, vR 10), (1, vR 1), (2, vI x2), (3, vI x3)] [] M := by
  unfold w_Slips_findLeast_L1 at hw
  exact hw (fun x3 M => rG p l e R s m args below meth c cells slots Qs D aC ad 4 15 [(0, vR 10), (1, vR 1), (2, vI x2), (3, vI x3)] [] M) (fun x3 M hb => s_Slips_findLeast_B1 hC hQ hX7 (fun _ _ h => h) hb)
def w_Slips_findLeast_B0 (Q : Mem → Prop) (X7 : Int → Mem → Prop) (x2 : Int) (M : Mem) : Prop :=
  (-2147483648 ≤ x2 ∧ x2 ≤ 2147483647) ∧ ((6 ≤ x2 → Q M) ∧ (¬ (6 ≤ x2) → w_Slips_findLeast_L1 Q X7 x2 0 M))
set_option maxRecDepth 100000 in
set_option maxHeartbeats 4000000 in
theorem s_Slips_findLeast_B0 {Q : Mem → Prop} {X7 : Int → Mem → Prop} {x2 : Int} {M : Mem} (hC : rC p R s m args meth c cells slots D aC ad 4 cX5_findLeast RX5 4 98 none) (hQ : ∀ (pc : Nat) (L : List (Nat × RV)) (M : Mem), decode cX5_findLeast pc = .ok (.return_, 1) → Q M → rG p l e R s m args below meth c cells slots Qs D aC ad 4 pc L [] M) (hX7 : ∀ (x2 : Int) (M : Mem), X7 x2 M → rG p l e R s m args below meth c cells slots Qs D aC ad 4 7 [(0, vR 10), (1, vR 1), (2, vI x2)] [] M) (hw : w_Slips_findLeast_B0 Q X7 x2 M) : rG p l e R s m args below meth c cells slots Qs D aC ad 4 7 [(0, vR 10), (1, vR 1), (2, vI x2)] [] M := by
  unfold w_Slips_findLeast_B0 at hw
  refine r_iload_n hC dX5_findLeast_7 rfl rfl ?_
  refine r_bipush hC dX5_findLeast_8 (by decide) ?_
  obtain ⟨o1, hw⟩ := hw
  obtain ⟨hwt, hwf⟩ := hw
  refine r_icmp_ge hC 45 dX5_findLeast_10 (by decide) o1.1 o1.2 (by decide) (by decide) (fun c3 => ?_) (fun c3 => ?_)
  · have hw := hwt c3
    exact hQ _ _ _ dX5_findLeast_45 hw
  · have hw := hwf c3
    refine r_iconst hC dX5_findLeast_13 ?_
    refine r_istore_n hC dX5_findLeast_14 rfl (by decide) ?_
    exact r_subk (s_Slips_findLeast_L1 hC hQ hX7 hw) ⟨rfl, rfl, rfl, rfl, trivial⟩
def w_Slips_findLeast_L0 (Q : Mem → Prop) (x2 : Int) (M : Mem) : Prop :=
  ∀ X : Int → Mem → Prop, (∀ (x2 : Int) (M : Mem), w_Slips_findLeast_B0 Q X x2 M → X x2 M) → X x2 M
set_option maxRecDepth 100000 in
set_option maxHeartbeats 4000000 in
theorem s_Slips_findLeast_L0 {Q : Mem → Prop} {x2 : Int} {M : Mem} (hC : rC p R s m args meth c cells slots D aC ad 4 cX5_findLeast RX5 4 98 none) (hQ : ∀ (pc : Nat) (L : List (Nat × RV)) (M : Mem), decode cX5_findLeast pc = .ok (.return_, 1) → Q M → rG p l e R s m args below meth c cells slots Qs D aC ad 4 pc L [] M) (hw : w_Slips_findLeast_L0 Q x2 M) : rG p l e R s m args below meth c cells slots Qs D aC ad 4 7 [(0, vR 10), (1, vR 1), (2, vI x2)] [] M := by
  unfold w_Slips_findLeast_L0 at hw
  exact hw (fun x2 M => rG p l e R s m args below meth c cells slots Qs D aC ad 4 7 [(0, vR 10), (1, vR 1), (2, vI x2)] [] M) (fun x2 M hb => s_Slips_findLeast_B0 hC hQ (fun _ _ h => h) hb)
def w_Slips_findLeast (M : Mem) (Q : Mem → Prop) : Prop :=
  ∀ M2 : Mem, M2 = mset M 10 3 (-1) → w_Slips_findLeast_L0 Q 0 M2
set_option maxRecDepth 100000 in
set_option maxHeartbeats 4000000 in
theorem s_Slips_findLeast {M : Mem} {Q : Mem → Prop} (hC : rC p R s m args meth c cells slots D aC ad 4 cX5_findLeast RX5 4 98 none) (hQ : ∀ (pc : Nat) (L : List (Nat × RV)) (M : Mem), decode cX5_findLeast pc = .ok (.return_, 1) → Q M → rG p l e R s m args below meth c cells slots Qs D aC ad 4 pc L [] M) (hw : w_Slips_findLeast M Q) : rG p l e R s m args below meth c cells slots Qs D aC ad 4 0 [(0, vR 10), (1, vR 1)] [] M := by
  unfold w_Slips_findLeast at hw
  refine r_aload_n hC dX5_findLeast_0 rfl rfl ?_
  refine r_iconst hC dX5_findLeast_1 ?_
  refine r_putI hC 3 rfl (by decide) kf5_61 rfl rfl (by decide) (by decide) dX5_findLeast_2 ?_
  replace hw := hw _ rfl
  refine r_iconst hC dX5_findLeast_5 ?_
  refine r_istore_n hC dX5_findLeast_6 rfl (by decide) ?_
  exact r_subk (s_Slips_findLeast_L0 hC hQ hw) ⟨rfl, rfl, rfl, trivial⟩
set_option maxRecDepth 100000 in
set_option maxHeartbeats 4000000 in
theorem d_Slips_findLeast {l : Launch} {D : va_G} {aC : Nat → ClassId} {ad : Nat → Nat} {M : Mem} {Q : Mem → Prop} (hw : w_Slips_findLeast M Q) : Does l D aC ad yX5_findLeast cX5_findLeast 4 none 4 98 [vR 10, vR 1] M (pV Q) :=
  Does.of (by decide) (Nat.le_of_ble_eq_true rfl) (fun p e R s m args below meth c hC => r_subk (s_Slips_findLeast hC (fun pc L M d h => r_vret hC d ⟨rfl, h⟩) hw) ⟨rfl, rfl, trivial⟩)
theorem dd_5_findLeast : yX5_findLeast.cls ≠ "java/lang/invoke/MethodHandle" ∧ yX5_findLeast.cls ≠ "java/lang/invoke/VarHandle" ∧ (parseMethodDescriptor yX5_findLeast.desc).map (fun d => d.parameters.length) = some 1 := by decide +kernel
/-- SoupSand.least -/
def w_S_least (M : Mem) (x1 : Int) (x2 : Int) (Q : Int → Mem → Prop) : Prop :=
  w_Shakes_hasShake M x1 (fun a1 => (-2147483648 ≤ a1 ∧ a1 ≤ 2147483647) ∧ ((¬ (a1 = 0) → w_S_beyond M x2 0 4 (fun a5 => (-2147483648 ≤ a5 ∧ a5 ≤ 2147483647) ∧ ((a5 = 0 → w_Slips_begin M x1 0 5 (fun M10 => w_Slips_findLeast M10 (fun M12 => ∀ a13 : Int, a13 = M12 10 3 → -1 ≤ a13 → a13 ≤ 5 → (¬ (a13 = (-1)) → (-2147483648 ≤ x2 ∧ x2 ≤ 2147483647) ∧ (((x2 < 0 ∨ 2 < x2) → ∀ a20 : Int, a20 = M12 10 6 → -1125899906842624 ≤ a20 → a20 ≤ 1125899906842624 → ∀ a22 : Int, a22 = M12 10 7 → -1125899906842624 ≤ a22 → a22 ≤ 1125899906842624 → w_S_leastTerms M12 a20 a22 (x2 - 3) (fun a24 => Q a24 M12)) ∧ (x2 = 0 → ∀ a25 : Int, a25 = M12 10 3 → -1 ≤ a25 → a25 ≤ 5 → Q a25 M12) ∧ (x2 = 1 → ∀ a28 : Int, a28 = M12 10 4 → 0 ≤ a28 → a28 ≤ 5 → Q a28 M12) ∧ (x2 = 2 → ∀ a31 : Int, a31 = M12 10 5 → 0 ≤ a31 → a31 ≤ 5 → Q a31 M12))) ∧ (a13 = (-1) → Q (-1) M12)))) ∧ (¬ (a5 = 0) → Q (-1002) M)))) ∧ (a1 = 0 → Q (-1001) M)))
set_option maxRecDepth 100000 in
set_option maxHeartbeats 4000000 in
theorem s_S_least {M : Mem} {x1 : Int} {x2 : Int} {Q : Int → Mem → Prop} (hC : rC p R s m args meth c cells slots D aC ad 3 cX11_least RX11 5 121 (some .long)) (hQ : ∀ (pc : Nat) (L : List (Nat × RV)) (z : Int) (M : Mem), decode cX11_least pc = .ok (.lreturn, 1) → Q z M → rG p l e R s m args below meth c cells slots Qs D aC ad 3 pc L [vJ z] M) (hw : w_S_least M x1 x2 Q) : rG p l e R s m args below meth c cells slots Qs D aC ad 3 0 [(0, vR 0), (1, vI x1), (2, vI x2)] [] M := by
  unfold w_S_least at hw
  refine r_aload_n hC dX11_least_0 rfl rfl ?_
  refine r_getR hC 2 rfl (by decide) kf11_25 rfl rfl dX11_least_1 ?_
  refine r_iload_n hC dX11_least_4 rfl rfl ?_
  refine r_callV hC (d_Shakes_hasShake hw) rfl kC4_hasShake km11_147 kI4_hasShake kS4_hasShake kN4 dd_4_hasShake ⟨Nat.le_of_ble_eq_true rfl, Nat.le_of_ble_eq_true rfl⟩ rfl (Nat.le_of_ble_eq_true rfl) dX11_least_5 (fun r M' hp => ?_)
  obtain ⟨rfl, a1, rfl, hw⟩ := hp
  try dsimp only at hw
  obtain ⟨o2, hw⟩ := hw
  obtain ⟨hwt, hwf⟩ := hw
  refine r_if_ne hC 15 dX11_least_8 (by decide) o2.1 o2.2 (fun c4 => ?_) (fun c4 => ?_)
  · have hw := hwt c4
    refine r_iload_n hC dX11_least_15 rfl rfl ?_
    refine r_iconst hC dX11_least_16 ?_
    refine r_iconst hC dX11_least_17 ?_
    refine r_callS hC (d_S_beyond hw) kC11_beyond km11_86 kT11_beyond kN11 dd_11_beyond ⟨Nat.le_of_ble_eq_true rfl, Nat.le_of_ble_eq_true rfl⟩ rfl (Nat.le_of_ble_eq_true rfl) dX11_least_18 (fun r M' hp => ?_)
    obtain ⟨rfl, a5, rfl, hw⟩ := hp
    try dsimp only at hw
    obtain ⟨o6, hw⟩ := hw
    obtain ⟨hwt, hwf⟩ := hw
    refine r_if_eq hC 28 dX11_least_21 (by decide) o6.1 o6.2 (fun c8 => ?_) (fun c8 => ?_)
    · have hw := hwt c8
      refine r_aload_n hC dX11_least_28 rfl rfl ?_
      refine r_getR hC 9 rfl (by decide) kf11_69 rfl rfl dX11_least_29 ?_
      refine r_aload_n hC dX11_least_32 rfl rfl ?_
      refine r_getR hC 0 rfl (by decide) kf11_10 rfl rfl dX11_least_33 ?_
      refine r_iload_n hC dX11_least_36 rfl rfl ?_
      refine r_iconst hC dX11_least_37 ?_
      refine r_iconst hC dX11_least_38 ?_
      refine r_callV hC (d_Slips_begin hw) rfl kC5_begin km11_340 kI5_begin kS5_begin kN5 dd_5_begin ⟨Nat.le_of_ble_eq_true rfl, Nat.le_of_ble_eq_true rfl⟩ rfl (Nat.le_of_ble_eq_true rfl) dX11_least_39 (fun r M' hp => ?_)
      obtain ⟨rfl, hw⟩ := hp
      try dsimp only at hw
      refine r_aload_n hC dX11_least_42 rfl rfl ?_
      refine r_getR hC 9 rfl (by decide) kf11_69 rfl rfl dX11_least_43 ?_
      refine r_aload_n hC dX11_least_46 rfl rfl ?_
      refine r_getR hC 0 rfl (by decide) kf11_10 rfl rfl dX11_least_47 ?_
      refine r_callV hC (d_Slips_findLeast hw) rfl kC5_findLeast km11_360 kI5_findLeast kS5_findLeast kN5 dd_5_findLeast ⟨Nat.le_of_ble_eq_true rfl, Nat.le_of_ble_eq_true rfl⟩ rfl (Nat.le_of_ble_eq_true rfl) dX11_least_50 (fun r M' hp => ?_)
      obtain ⟨rfl, hw⟩ := hp
      try dsimp only at hw
      refine r_aload_n hC dX11_least_53 rfl rfl ?_
      refine r_getR hC 9 rfl (by decide) kf11_69 rfl rfl dX11_least_54 ?_
      refine r_getI hC 3 rfl (by decide) kf11_364 rfl rfl dX11_least_57 (fun b14 b14' => ?_)
      replace hw := hw _ rfl b14 b14'
      refine r_iconst hC dX11_least_60 ?_
      obtain ⟨hwt, hwf⟩ := hw
      refine r_icmp_ne hC 68 dX11_least_61 (by decide) (by omega) (by omega) (by decide) (by decide) (fun c17 => ?_) (fun c17 => ?_)
      · have hw := hwt c17
        refine r_iload_n hC dX11_least_68 rfl rfl ?_
        obtain ⟨o18, hw⟩ := hw
        obtain ⟨hd, h0, h1, h2⟩ := hw
        refine r_tsw hC dX11_least_69 o18.1 o18.2 123 (by decide) (fun c19 => ?_) (fun n hn hn2 => ?_)
        · have hw := hd c19
          refine r_aload_n hC dX11_least_123 rfl rfl ?_
          refine r_getR hC 9 rfl (by decide) kf11_69 rfl rfl dX11_least_124 ?_
          refine r_getJ hC 6 rfl (by decide) kf11_374 rfl rfl dX11_least_127 (fun b21 b21' => ?_)
          replace hw := hw _ rfl b21 b21'
          refine r_aload_n hC dX11_least_130 rfl rfl ?_
          refine r_getR hC 9 rfl (by decide) kf11_69 rfl rfl dX11_least_131 ?_
          refine r_getJ hC 7 rfl (by decide) kf11_377 rfl rfl dX11_least_134 (fun b23 b23' => ?_)
          replace hw := hw _ rfl b23 b23'
          refine r_iload_n hC dX11_least_137 rfl rfl ?_
          refine r_iconst hC dX11_least_138 ?_
          refine r_isub hC dX11_least_139 ?_
          refine r_callS hC (d_S_leastTerms hw) kC11_leastTerms km11_356 kT11_leastTerms kN11 dd_11_leastTerms ⟨Nat.le_of_ble_eq_true rfl, Nat.le_of_ble_eq_true rfl⟩ rfl (Nat.le_of_ble_eq_true rfl) dX11_least_140 (fun r M' hp => ?_)
          obtain ⟨rfl, a24, rfl, hw⟩ := hp
          try dsimp only at hw
          exact hQ _ _ _ _ dX11_least_143 hw
        · have hlt : n < 3 := by omega
          match n, hlt with
          | 0, _ =>
            refine ⟨_, 96, rfl, by decide, ?_⟩
            have hw := h0 (by omega)
            refine r_aload_n hC dX11_least_96 rfl rfl ?_
            refine r_getR hC 9 rfl (by decide) kf11_69 rfl rfl dX11_least_97 ?_
            refine r_getI hC 3 rfl (by decide) kf11_364 rfl rfl dX11_least_100 (fun b26 b26' => ?_)
            replace hw := hw _ rfl b26 b26'
            refine r_i2l hC dX11_least_103 (by omega) (by omega) ?_
            exact hQ _ _ _ _ dX11_least_104 hw
          | 1, _ =>
            refine ⟨_, 105, rfl, by decide, ?_⟩
            have hw := h1 (by omega)
            refine r_aload_n hC dX11_least_105 rfl rfl ?_
            refine r_getR hC 9 rfl (by decide) kf11_69 rfl rfl dX11_least_106 ?_
            refine r_getI hC 4 rfl (by decide) kf11_369 rfl rfl dX11_least_109 (fun b29 b29' => ?_)
            replace hw := hw _ rfl b29 b29'
            refine r_i2l hC dX11_least_112 (by omega) (by omega) ?_
            exact hQ _ _ _ _ dX11_least_113 hw
          | 2, _ =>
            refine ⟨_, 114, rfl, by decide, ?_⟩
            have hw := h2 (by omega)
            refine r_aload_n hC dX11_least_114 rfl rfl ?_
            refine r_getR hC 9 rfl (by decide) kf11_69 rfl rfl dX11_least_115 ?_
            refine r_getI hC 5 rfl (by decide) kf11_372 rfl rfl dX11_least_118 (fun b32 b32' => ?_)
            replace hw := hw _ rfl b32 b32'
            refine r_i2l hC dX11_least_121 (by omega) (by omega) ?_
            exact hQ _ _ _ _ dX11_least_122 hw
          | n + 3, h => exact absurd h (by omega)
      · have hw := hwf c17
        refine r_ldc2 hC (-1) dX11_least_64 kL11_367 (by decide) ?_
        exact hQ _ _ _ _ dX11_least_67 hw
    · have hw := hwf c8
      refine r_ldc2 hC (-1002) dX11_least_24 kL11_224 (by decide) ?_
      exact hQ _ _ _ _ dX11_least_27 hw
  · have hw := hwf c4
    refine r_ldc2 hC (-1001) dX11_least_11 kL11_222 (by decide) ?_
    exact hQ _ _ _ _ dX11_least_14 hw
set_option maxRecDepth 100000 in
set_option maxHeartbeats 4000000 in
theorem d_S_least {l : Launch} {D : va_G} {aC : Nat → ClassId} {ad : Nat → Nat} {M : Mem} {x1 : Int} {x2 : Int} {Q : Int → Mem → Prop} (hw : w_S_least M x1 x2 Q) : Does l D aC ad yX11_least cX11_least 3 (some .long) 5 121 [vR 0, vI x1, vI x2] M (pJ Q) :=
  Does.of (by decide) (Nat.le_of_ble_eq_true rfl) (fun p e R s m args below meth c hC => r_subk (s_S_least hC (fun pc L z M d h => r_lret hC d ⟨z, rfl, h⟩) hw) ⟨rfl, rfl, rfl, trivial⟩)
/-- SoupSand$Works.addWork -/
def w_Works_addWork (M : Mem) (x1 : Int) (x2 : Int) (x3 : Int) (x4 : Int) (Q : Int → Mem → Prop) : Prop :=
  ∀ a1 : Int, a1 = M 8 5 → 0 ≤ a1 → a1 ≤ 6 → ((0 ≤ a1 ∧ a1 < 6) ∧ (0 ≤ x1 ∧ x1 ≤ 5)) ∧ (∀ M4 : Mem, M4 = mset M 45 a1 x1 → ∀ a5 : Int, a5 = M4 8 5 → 0 ≤ a5 → a5 ≤ 6 → ((0 ≤ a5 ∧ a5 < 6) ∧ (0 ≤ x2 ∧ x2 ≤ 1)) ∧ (∀ M8 : Mem, M8 = mset M4 46 a5 x2 → ∀ a9 : Int, a9 = M8 8 5 → 0 ≤ a9 → a9 ≤ 6 → ((0 ≤ a9 ∧ a9 < 6) ∧ (0 ≤ x3 ∧ x3 ≤ 500)) ∧ (∀ M12 : Mem, M12 = mset M8 47 a9 x3 → ∀ a13 : Int, a13 = M12 8 5 → 0 ≤ a13 → a13 ≤ 6 → ((0 ≤ a13 ∧ a13 < 6) ∧ (0 ≤ x4 ∧ x4 ≤ 999)) ∧ (∀ M16 : Mem, M16 = mset M12 48 a13 x4 → ∀ a17 : Int, a17 = M16 8 5 → 0 ≤ a17 → a17 ≤ 6 → (0 ≤ a17 + 1 ∧ a17 + 1 ≤ 6) ∧ (∀ M20 : Mem, M20 = mset M16 8 5 (a17 + 1) → ∀ a21 : Int, a21 = M20 8 5 → 0 ≤ a21 → a21 ≤ 6 → Q (a21 - 1) M20)))))
set_option maxRecDepth 100000 in
set_option maxHeartbeats 4000000 in
theorem s_Works_addWork {M : Mem} {x1 : Int} {x2 : Int} {x3 : Int} {x4 : Int} {Q : Int → Mem → Prop} (hC : rC p R s m args meth c cells slots D aC ad 5 cX10_addWork RX10 0 0 (some .int)) (hQ : ∀ (pc : Nat) (L : List (Nat × RV)) (z : Int) (M : Mem), decode cX10_addWork pc = .ok (.ireturn, 1) → Q z M → rG p l e R s m args below meth c cells slots Qs D aC ad 5 pc L [vI z] M) (hw : w_Works_addWork M x1 x2 x3 x4 Q) : rG p l e R s m args below meth c cells slots Qs D aC ad 5 0 [(0, vR 8), (1, vI x1), (2, vI x2), (3, vI x3), (4, vI x4)] [] M := by
  unfold w_Works_addWork at hw
  refine r_aload_n hC dX10_addWork_0 rfl rfl ?_
  refine r_getR hC 0 rfl (by decide) kf10_9 rfl rfl dX10_addWork_1 ?_
  refine r_aload_n hC dX10_addWork_4 rfl rfl ?_
  refine r_getI hC 5 rfl (by decide) kf10_27 rfl rfl dX10_addWork_5 (fun b2 b2' => ?_)
  replace hw := hw _ rfl b2 b2'
  refine r_iload_n hC dX10_addWork_8 rfl rfl ?_
  obtain ⟨o3, hw⟩ := hw
  refine r_iast hC rfl o3.1.1 o3.1.2 (by decide) (by decide) o3.2.1 o3.2.2 dX10_addWork_9 ?_
  replace hw := hw _ rfl
  refine r_aload_n hC dX10_addWork_10 rfl rfl ?_
  refine r_getR hC 1 rfl (by decide) kf10_15 rfl rfl dX10_addWork_11 ?_
  refine r_aload_n hC dX10_addWork_14 rfl rfl ?_
  refine r_getI hC 5 rfl (by decide) kf10_27 rfl rfl dX10_addWork_15 (fun b6 b6' => ?_)
  replace hw := hw _ rfl b6 b6'
  refine r_iload_n hC dX10_addWork_18 rfl rfl ?_
  obtain ⟨o7, hw⟩ := hw
  refine r_iast hC rfl o7.1.1 o7.1.2 (by decide) (by decide) o7.2.1 o7.2.2 dX10_addWork_19 ?_
  replace hw := hw _ rfl
  refine r_aload_n hC dX10_addWork_20 rfl rfl ?_
  refine r_getR hC 2 rfl (by decide) kf10_18 rfl rfl dX10_addWork_21 ?_
  refine r_aload_n hC dX10_addWork_24 rfl rfl ?_
  refine r_getI hC 5 rfl (by decide) kf10_27 rfl rfl dX10_addWork_25 (fun b10 b10' => ?_)
  replace hw := hw _ rfl b10 b10'
  refine r_iload_n hC dX10_addWork_28 rfl rfl ?_
  obtain ⟨o11, hw⟩ := hw
  refine r_iast hC rfl o11.1.1 o11.1.2 (by decide) (by decide) o11.2.1 o11.2.2 dX10_addWork_29 ?_
  replace hw := hw _ rfl
  refine r_aload_n hC dX10_addWork_30 rfl rfl ?_
  refine r_getR hC 3 rfl (by decide) kf10_21 rfl rfl dX10_addWork_31 ?_
  refine r_aload_n hC dX10_addWork_34 rfl rfl ?_
  refine r_getI hC 5 rfl (by decide) kf10_27 rfl rfl dX10_addWork_35 (fun b14 b14' => ?_)
  replace hw := hw _ rfl b14 b14'
  refine r_iload hC dX10_addWork_38 rfl ?_
  obtain ⟨o15, hw⟩ := hw
  refine r_iast hC rfl o15.1.1 o15.1.2 (by decide) (by decide) o15.2.1 o15.2.2 dX10_addWork_40 ?_
  replace hw := hw _ rfl
  refine r_aload_n hC dX10_addWork_41 rfl rfl ?_
  refine r_dup hC dX10_addWork_42 rfl ?_
  refine r_getI hC 5 rfl (by decide) kf10_27 rfl rfl dX10_addWork_43 (fun b18 b18' => ?_)
  replace hw := hw _ rfl b18 b18'
  refine r_iconst hC dX10_addWork_46 ?_
  refine r_iadd hC dX10_addWork_47 ?_
  obtain ⟨o19, hw⟩ := hw
  refine r_putI hC 5 rfl (by decide) kf10_27 rfl rfl o19.1 o19.2 dX10_addWork_48 ?_
  replace hw := hw _ rfl
  refine r_aload_n hC dX10_addWork_51 rfl rfl ?_
  refine r_getI hC 5 rfl (by decide) kf10_27 rfl rfl dX10_addWork_52 (fun b22 b22' => ?_)
  replace hw := hw _ rfl b22 b22'
  refine r_iconst hC dX10_addWork_55 ?_
  refine r_isub hC dX10_addWork_56 ?_
  exact hQ _ _ _ _ dX10_addWork_57 hw
set_option maxRecDepth 100000 in
set_option maxHeartbeats 4000000 in
theorem d_Works_addWork {l : Launch} {D : va_G} {aC : Nat → ClassId} {ad : Nat → Nat} {M : Mem} {x1 : Int} {x2 : Int} {x3 : Int} {x4 : Int} {Q : Int → Mem → Prop} (hw : w_Works_addWork M x1 x2 x3 x4 Q) : Does l D aC ad yX10_addWork cX10_addWork 5 (some .int) 0 0 [vR 8, vI x1, vI x2, vI x3, vI x4] M (pI Q) :=
  Does.of (by decide) (Nat.le_of_ble_eq_true rfl) (fun p e R s m args below meth c hC => r_subk (s_Works_addWork hC (fun pc L z M d h => r_iret hC d ⟨z, rfl, h⟩) hw) ⟨rfl, rfl, rfl, rfl, rfl, trivial⟩)
theorem dd_10_addWork : yX10_addWork.cls ≠ "java/lang/invoke/MethodHandle" ∧ yX10_addWork.cls ≠ "java/lang/invoke/VarHandle" ∧ (parseMethodDescriptor yX10_addWork.desc).map (fun d => d.parameters.length) = some 4 := by decide +kernel
/-- SoupSand.work -/
def w_S_work_j0 (Q : Int → Mem → Prop) (x1 : Int) (x2 : Int) (x3 : Int) (x4 : Int) (s0 : Int) (s1 : Int) (s2 : Int) (M : Mem) : Prop :=
  w_S_beyond M s0 s1 s2 (fun a1 => (-2147483648 ≤ a1 ∧ a1 ≤ 2147483647) ∧ ((¬ (a1 = 0) → Q (-1002) M) ∧ (a1 = 0 → w_S_beyond M x4 1 999 (fun a5 => (-2147483648 ≤ a5 ∧ a5 ≤ 2147483647) ∧ ((a5 = 0 → ∀ a9 : Int, a9 = M 8 5 → 0 ≤ a9 → a9 ≤ 6 → (a9 < 6 → w_Works_addWork M x1 x2 x3 x4 (fun a14 M15 => Q a14 M15)) ∧ (¬ (a9 < 6) → Q (-1004) M)) ∧ (¬ (a5 = 0) → Q (-1002) M))))))
set_option maxRecDepth 100000 in
set_option maxHeartbeats 4000000 in
theorem s_S_work_j0 {Q : Int → Mem → Prop} {x1 : Int} {x2 : Int} {x3 : Int} {x4 : Int} {s0 : Int} {s1 : Int} {s2 : Int} {M : Mem} (hC : rC p R s m args meth c cells slots D aC ad 5 cX11_work RX11 1 24 (some .int)) (hQ : ∀ (pc : Nat) (L : List (Nat × RV)) (z : Int) (M : Mem), decode cX11_work pc = .ok (.ireturn, 1) → Q z M → rG p l e R s m args below meth c cells slots Qs D aC ad 5 pc L [vI z] M) (hw : w_S_work_j0 Q x1 x2 x3 x4 s0 s1 s2 M) : rG p l e R s m args below meth c cells slots Qs D aC ad 5 38 [(0, vR 0), (1, vI x1), (2, vI x2), (3, vI x3), (4, vI x4)] [vI s2, vI s1, vI s0] M := by
  unfold w_S_work_j0 at hw
  refine r_callS hC (d_S_beyond hw) kC11_beyond km11_86 kT11_beyond kN11 dd_11_beyond ⟨Nat.le_of_ble_eq_true rfl, Nat.le_of_ble_eq_true rfl⟩ rfl (Nat.le_of_ble_eq_true rfl) dX11_work_38 (fun r M' hp => ?_)
  obtain ⟨rfl, a1, rfl, hw⟩ := hp
  try dsimp only at hw
  obtain ⟨o2, hw⟩ := hw
  obtain ⟨hwt, hwf⟩ := hw
  refine r_if_ne hC 56 dX11_work_41 (by decide) o2.1 o2.2 (fun c4 => ?_) (fun c4 => ?_)
  · have hw := hwt c4
    refine r_sipush hC dX11_work_56 (by decide) ?_
    exact hQ _ _ _ _ dX11_work_59 hw
  · have hw := hwf c4
    refine r_iload hC dX11_work_44 rfl ?_
    refine r_iconst hC dX11_work_46 ?_
    refine r_sipush hC dX11_work_47 (by decide) ?_
    refine r_callS hC (d_S_beyond hw) kC11_beyond km11_86 kT11_beyond kN11 dd_11_beyond ⟨Nat.le_of_ble_eq_true rfl, Nat.le_of_ble_eq_true rfl⟩ rfl (Nat.le_of_ble_eq_true rfl) dX11_work_50 (fun r M' hp => ?_)
    obtain ⟨rfl, a5, rfl, hw⟩ := hp
    try dsimp only at hw
    obtain ⟨o6, hw⟩ := hw
    obtain ⟨hwt, hwf⟩ := hw
    refine r_if_eq hC 60 dX11_work_53 (by decide) o6.1 o6.2 (fun c8 => ?_) (fun c8 => ?_)
    · have hw := hwt c8
      refine r_aload_n hC dX11_work_60 rfl rfl ?_
      refine r_getR hC 7 rfl (by decide) kf11_55 rfl rfl dX11_work_61 ?_
      refine r_getI hC 5 rfl (by decide) kf11_171 rfl rfl dX11_work_64 (fun b10 b10' => ?_)
      replace hw := hw _ rfl b10 b10'
      refine r_bipush hC dX11_work_67 (by decide) ?_
      obtain ⟨hwt, hwf⟩ := hw
      refine r_icmp_lt hC 76 dX11_work_69 (by decide) (by omega) (by omega) (by decide) (by decide) (fun c13 => ?_) (fun c13 => ?_)
      · have hw := hwt c13
        refine r_aload_n hC dX11_work_76 rfl rfl ?_
        refine r_getR hC 7 rfl (by decide) kf11_55 rfl rfl dX11_work_77 ?_
        refine r_iload_n hC dX11_work_80 rfl rfl ?_
        refine r_iload_n hC dX11_work_81 rfl rfl ?_
        refine r_iload_n hC dX11_work_82 rfl rfl ?_
        refine r_iload hC dX11_work_83 rfl ?_
        refine r_callV hC (d_Works_addWork hw) rfl kC10_addWork km11_380 kI10_addWork kS10_addWork kN10 dd_10_addWork ⟨Nat.le_of_ble_eq_true rfl, Nat.le_of_ble_eq_true rfl⟩ rfl (Nat.le_of_ble_eq_true rfl) dX11_work_85 (fun r M' hp => ?_)
        obtain ⟨a14, rfl, hw⟩ := hp
        try dsimp only at hw
        exact hQ _ _ _ _ dX11_work_88 hw
      · have hw := hwf c13
        refine r_sipush hC dX11_work_72 (by decide) ?_
        exact hQ _ _ _ _ dX11_work_75 hw
    · have hw := hwf c8
      refine r_sipush hC dX11_work_56 (by decide) ?_
      exact hQ _ _ _ _ dX11_work_59 hw
def w_S_work (M : Mem) (x1 : Int) (x2 : Int) (x3 : Int) (x4 : Int) (Q : Int → Mem → Prop) : Prop :=
  w_Ground_hasColumn M x1 (fun a1 => (-2147483648 ≤ a1 ∧ a1 ≤ 2147483647) ∧ ((¬ (a1 = 0) → w_S_beyond M x2 0 1 (fun a5 => (-2147483648 ≤ a5 ∧ a5 ≤ 2147483647) ∧ ((¬ (a5 = 0) → Q (-1002) M) ∧ (a5 = 0 → (-2147483648 ≤ x2 ∧ x2 ≤ 2147483647) ∧ ((¬ (x2 = 0) → w_S_work_j0 Q x1 x2 x3 x4 x3 1 100 M) ∧ (x2 = 0 → w_S_work_j0 Q x1 x2 x3 x4 x3 1 500 M)))))) ∧ (a1 = 0 → Q (-1001) M)))
set_option maxRecDepth 100000 in
set_option maxHeartbeats 4000000 in
theorem s_S_work {M : Mem} {x1 : Int} {x2 : Int} {x3 : Int} {x4 : Int} {Q : Int → Mem → Prop} (hC : rC p R s m args meth c cells slots D aC ad 5 cX11_work RX11 1 24 (some .int)) (hQ : ∀ (pc : Nat) (L : List (Nat × RV)) (z : Int) (M : Mem), decode cX11_work pc = .ok (.ireturn, 1) → Q z M → rG p l e R s m args below meth c cells slots Qs D aC ad 5 pc L [vI z] M) (hw : w_S_work M x1 x2 x3 x4 Q) : rG p l e R s m args below meth c cells slots Qs D aC ad 5 0 [(0, vR 0), (1, vI x1), (2, vI x2), (3, vI x3), (4, vI x4)] [] M := by
  unfold w_S_work at hw
  refine r_aload_n hC dX11_work_0 rfl rfl ?_
  refine r_getR hC 1 rfl (by decide) kf11_20 rfl rfl dX11_work_1 ?_
  refine r_iload_n hC dX11_work_4 rfl rfl ?_
  refine r_callV hC (d_Ground_hasColumn hw) rfl kC0_hasColumn km11_80 kI0_hasColumn kS0_hasColumn kN0 dd_0_hasColumn ⟨Nat.le_of_ble_eq_true rfl, Nat.le_of_ble_eq_true rfl⟩ rfl (Nat.le_of_ble_eq_true rfl) dX11_work_5 (fun r M' hp => ?_)
  obtain ⟨rfl, a1, rfl, hw⟩ := hp
  try dsimp only at hw
  obtain ⟨o2, hw⟩ := hw
  obtain ⟨hwt, hwf⟩ := hw
  refine r_if_ne hC 15 dX11_work_8 (by decide) o2.1 o2.2 (fun c4 => ?_) (fun c4 => ?_)
  · have hw := hwt c4
    refine r_iload_n hC dX11_work_15 rfl rfl ?_
    refine r_iconst hC dX11_work_16 ?_
    refine r_iconst hC dX11_work_17 ?_
    refine r_callS hC (d_S_beyond hw) kC11_beyond km11_86 kT11_beyond kN11 dd_11_beyond ⟨Nat.le_of_ble_eq_true rfl, Nat.le_of_ble_eq_true rfl⟩ rfl (Nat.le_of_ble_eq_true rfl) dX11_work_18 (fun r M' hp => ?_)
    obtain ⟨rfl, a5, rfl, hw⟩ := hp
    try dsimp only at hw
    obtain ⟨o6, hw⟩ := hw
    obtain ⟨hwt, hwf⟩ := hw
    refine r_if_ne hC 56 dX11_work_21 (by decide) o6.1 o6.2 (fun c8 => ?_) (fun c8 => ?_)
    · have hw := hwt c8
      refine r_sipush hC dX11_work_56 (by decide) ?_
      exact hQ _ _ _ _ dX11_work_59 hw
    · have hw := hwf c8
      refine r_iload_n hC dX11_work_24 rfl rfl ?_
      refine r_iconst hC dX11_work_25 ?_
      refine r_iload_n hC dX11_work_26 rfl rfl ?_
      obtain ⟨o9, hw⟩ := hw
      obtain ⟨hwt, hwf⟩ := hw
      refine r_if_ne hC 36 dX11_work_27 (by decide) o9.1 o9.2 (fun c11 => ?_) (fun c11 => ?_)
      · have hw := hwt c11
        refine r_bipush hC dX11_work_36 (by decide) ?_
        exact r_subk (s_S_work_j0 hC hQ hw) ⟨rfl, rfl, rfl, rfl, rfl, trivial⟩
      · have hw := hwf c11
        refine r_sipush hC dX11_work_30 (by decide) ?_
        refine r_goto hC 38 dX11_work_33 (by decide) ?_
        exact r_subk (s_S_work_j0 hC hQ hw) ⟨rfl, rfl, rfl, rfl, rfl, trivial⟩
  · have hw := hwf c4
    refine r_sipush hC dX11_work_11 (by decide) ?_
    exact hQ _ _ _ _ dX11_work_14 hw
set_option maxRecDepth 100000 in
set_option maxHeartbeats 4000000 in
theorem d_S_work {l : Launch} {D : va_G} {aC : Nat → ClassId} {ad : Nat → Nat} {M : Mem} {x1 : Int} {x2 : Int} {x3 : Int} {x4 : Int} {Q : Int → Mem → Prop} (hw : w_S_work M x1 x2 x3 x4 Q) : Does l D aC ad yX11_work cX11_work 5 (some .int) 1 24 [vR 0, vI x1, vI x2, vI x3, vI x4] M (pI Q) :=
  Does.of (by decide) (Nat.le_of_ble_eq_true rfl) (fun p e R s m args below meth c hC => r_subk (s_S_work hC (fun pc L z M d h => r_iret hC d ⟨z, rfl, h⟩) hw) ⟨rfl, rfl, rfl, rfl, rfl, trivial⟩)
/-- SoupSand$Houses.widestOn -/
def w_Houses_widestOn_B0 (Q : Int → Prop) (x1 : Int) (M : Mem) (X4 : Int → Int → Prop) (x2 : Int) (x3 : Int) : Prop :=
  ∀ a1 : Int, a1 = M 6 3 → 0 ≤ a1 → a1 ≤ 8 → (-2147483648 ≤ x3 ∧ x3 ≤ 2147483647) ∧ ((a1 ≤ x3 → Q x2) ∧ (¬ (a1 ≤ x3) → (0 ≤ x3 ∧ x3 < 8) ∧ (∀ a7 : Int, a7 = M 38 x3 → 0 ≤ a7 → a7 ≤ 5 → (-2147483648 ≤ x1 ∧ x1 ≤ 2147483647) ∧ ((¬ (a7 = x1) → X4 x2 (x3 + 1)) ∧ (a7 = x1 → (0 ≤ x3 ∧ x3 < 8) ∧ (∀ a13 : Int, a13 = M 39 x3 → 0 ≤ a13 → a13 ≤ 60 → (-2147483648 ≤ x2 ∧ x2 ≤ 2147483647) ∧ (X4 (max x2 a13) (x3 + 1))))))))
set_option maxRecDepth 100000 in
set_option maxHeartbeats 4000000 in
theorem s_Houses_widestOn_B0 {Q : Int → Prop} {x1 : Int} {M : Mem} {X4 : Int → Int → Prop} {x2 : Int} {x3 : Int} (hC : rC p R s m args meth c cells slots D aC ad 4 cX1_widestOn RX1 1 21 (some .int)) (hQ : ∀ (pc : Nat) (L : List (Nat × RV)) (z : Int), decode cX1_widestOn pc = .ok (.ireturn, 1) → Q z → rG p l e R s m args below meth c cells slots Qs D aC ad 4 pc L [vI z] M) (hX4 : ∀ (x2 : Int) (x3 : Int), X4 x2 x3 → rG p l e R s m args below meth c cells slots Qs D aC ad 4 4 [(0, vR 6), (1, vI x1), (2, vI x2), (3, vI x3)] [] M) (hw : w_Houses_widestOn_B0 Q x1 M X4 x2 x3) : rG p l e R s m args below meth c cells slots Qs D aC ad 4 4 [(0, vR 6), (1, vI x1), (2, vI x2), (3, vI x3)] [] M := by
  unfold w_Houses_widestOn_B0 at hw
  refine r_iload_n hC dX1_widestOn_4 rfl rfl ?_
  refine r_aload_n hC dX1_widestOn_5 rfl rfl ?_
  refine r_getI hC 3 rfl (by decide) kf1_21 rfl rfl dX1_widestOn_6 (fun b2 b2' => ?_)
  replace hw := hw _ rfl b2 b2'
  obtain ⟨o3, hw⟩ := hw
  obtain ⟨hwt, hwf⟩ := hw
  refine r_icmp_ge hC 39 dX1_widestOn_9 (by decide) o3.1 o3.2 (by omega) (by omega) (fun c5 => ?_) (fun c5 => ?_)
  · have hw := hwt c5
    refine r_iload_n hC dX1_widestOn_39 rfl rfl ?_
    exact hQ _ _ _ dX1_widestOn_40 hw
  · have hw := hwf c5
    refine r_aload_n hC dX1_widestOn_12 rfl rfl ?_
    refine r_getR hC 0 rfl (by decide) kf1_9 rfl rfl dX1_widestOn_13 ?_
    refine r_iload_n hC dX1_widestOn_16 rfl rfl ?_
    obtain ⟨o6, hw⟩ := hw
    refine r_iald hC rfl o6.1 o6.2 (by decide) (by decide) dX1_widestOn_17 (fun b8 b8' => ?_)
    replace hw := hw _ rfl b8 b8'
    refine r_iload_n hC dX1_widestOn_18 rfl rfl ?_
    obtain ⟨o10, hw⟩ := hw
    obtain ⟨hwt, hwf⟩ := hw
    refine r_icmp_ne hC 33 dX1_widestOn_19 (by decide) (by omega) (by omega) o10.1 o10.2 (fun c11 => ?_) (fun c11 => ?_)
    · have hw := hwt c11
      refine r_iinc hC dX1_widestOn_33 rfl (by decide) ?_
      refine r_goto hC 4 dX1_widestOn_36 (by decide) ?_
      exact r_subk (hX4 _ _ hw) ⟨rfl, rfl, rfl, rfl, trivial⟩
    · have hw := hwf c11
      refine r_iload_n hC dX1_widestOn_22 rfl rfl ?_
      refine r_aload_n hC dX1_widestOn_23 rfl rfl ?_
      refine r_getR hC 1 rfl (by decide) kf1_15 rfl rfl dX1_widestOn_24 ?_
      refine r_iload_n hC dX1_widestOn_27 rfl rfl ?_
      obtain ⟨o12, hw⟩ := hw
      refine r_iald hC rfl o12.1 o12.2 (by decide) (by decide) dX1_widestOn_28 (fun b14 b14' => ?_)
      replace hw := hw _ rfl b14 b14'
      obtain ⟨o15, hw⟩ := hw
      refine r_max hC km1_25 (by decide) (Nat.le_of_ble_eq_true rfl) dX1_widestOn_29 o15.1 o15.2 (by omega) (by omega) ?_
      refine r_istore_n hC dX1_widestOn_32 rfl (by decide) ?_
      refine r_iinc hC dX1_widestOn_33 rfl (by decide) ?_
      refine r_goto hC 4 dX1_widestOn_36 (by decide) ?_
      exact r_subk (hX4 _ _ hw) ⟨rfl, rfl, rfl, rfl, trivial⟩
def w_Houses_widestOn_L0 (Q : Int → Prop) (x1 : Int) (M : Mem) (x2 : Int) (x3 : Int) : Prop :=
  ∀ X : Int → Int → Prop, (∀ (x2 : Int) (x3 : Int), w_Houses_widestOn_B0 Q x1 M X x2 x3 → X x2 x3) → X x2 x3
set_option maxRecDepth 100000 in
set_option maxHeartbeats 4000000 in
theorem s_Houses_widestOn_L0 {Q : Int → Prop} {x1 : Int} {M : Mem} {x2 : Int} {x3 : Int} (hC : rC p R s m args meth c cells slots D aC ad 4 cX1_widestOn RX1 1 21 (some .int)) (hQ : ∀ (pc : Nat) (L : List (Nat × RV)) (z : Int), decode cX1_widestOn pc = .ok (.ireturn, 1) → Q z → rG p l e R s m args below meth c cells slots Qs D aC ad 4 pc L [vI z] M) (hw : w_Houses_widestOn_L0 Q x1 M x2 x3) : rG p l e R s m args below meth c cells slots Qs D aC ad 4 4 [(0, vR 6), (1, vI x1), (2, vI x2), (3, vI x3)] [] M := by
  unfold w_Houses_widestOn_L0 at hw
  exact hw (fun x2 x3 => rG p l e R s m args below meth c cells slots Qs D aC ad 4 4 [(0, vR 6), (1, vI x1), (2, vI x2), (3, vI x3)] [] M) (fun x2 x3 hb => s_Houses_widestOn_B0 hC hQ (fun _ _ h => h) hb)
def w_Houses_widestOn (M : Mem) (x1 : Int) (Q : Int → Prop) : Prop :=
  w_Houses_widestOn_L0 Q x1 M 0 0
set_option maxRecDepth 100000 in
set_option maxHeartbeats 4000000 in
theorem s_Houses_widestOn {M : Mem} {x1 : Int} {Q : Int → Prop} (hC : rC p R s m args meth c cells slots D aC ad 4 cX1_widestOn RX1 1 21 (some .int)) (hQ : ∀ (pc : Nat) (L : List (Nat × RV)) (z : Int), decode cX1_widestOn pc = .ok (.ireturn, 1) → Q z → rG p l e R s m args below meth c cells slots Qs D aC ad 4 pc L [vI z] M) (hw : w_Houses_widestOn M x1 Q) : rG p l e R s m args below meth c cells slots Qs D aC ad 4 0 [(0, vR 6), (1, vI x1)] [] M := by
  unfold w_Houses_widestOn at hw
  refine r_iconst hC dX1_widestOn_0 ?_
  refine r_istore_n hC dX1_widestOn_1 rfl (by decide) ?_
  refine r_iconst hC dX1_widestOn_2 ?_
  refine r_istore_n hC dX1_widestOn_3 rfl (by decide) ?_
  exact r_subk (s_Houses_widestOn_L0 hC hQ hw) ⟨rfl, rfl, rfl, rfl, trivial⟩
set_option maxRecDepth 100000 in
set_option maxHeartbeats 4000000 in
theorem d_Houses_widestOn {l : Launch} {D : va_G} {aC : Nat → ClassId} {ad : Nat → Nat} {M : Mem} {x1 : Int} {Q : Int → Prop} (hw : w_Houses_widestOn M x1 Q) : Does l D aC ad yX1_widestOn cX1_widestOn 4 (some .int) 1 21 [vR 6, vI x1] M (qI M Q) :=
  Does.of (by decide) (Nat.le_of_ble_eq_true rfl) (fun p e R s m args below meth c hC => r_subk (s_Houses_widestOn hC (fun pc L z d h => r_iret hC d ⟨rfl, ⟨z, rfl, h⟩⟩) hw) ⟨rfl, rfl, trivial⟩)
theorem dd_1_widestOn : yX1_widestOn.cls ≠ "java/lang/invoke/MethodHandle" ∧ yX1_widestOn.cls ≠ "java/lang/invoke/VarHandle" ∧ (parseMethodDescriptor yX1_widestOn.desc).map (fun d => d.parameters.length) = some 1 := by decide +kernel
/-- SoupSand.housesQuarrel -/
def w_S_housesQuarrel_B0 (Q : Int → Mem → Prop) (X2 : Int → Mem → Prop) (x1 : Int) (M : Mem) : Prop :=
  (-2147483648 ≤ x1 ∧ x1 ≤ 2147483647) ∧ ((6 ≤ x1 → Q 0 M) ∧ (¬ (6 ≤ x1) → w_Houses_widestOn M x1 (fun a5 => (-2147483648 ≤ a5 ∧ a5 ≤ 2147483647) ∧ ((a5 ≤ 0 → X2 (x1 + 1) M) ∧ (¬ (a5 ≤ 0) → w_Words_look M x1 (fun M10 => w_Words_countKept M10 x1 (fun a11 => (-2147483648 ≤ a11 ∧ a11 ≤ 2147483647) ∧ ((¬ (a11 = 0) → X2 (x1 + 1) M10) ∧ (a11 = 0 → Q 1 M10)))))))))
set_option maxRecDepth 100000 in
set_option maxHeartbeats 4000000 in
theorem s_S_housesQuarrel_B0 {Q : Int → Mem → Prop} {X2 : Int → Mem → Prop} {x1 : Int} {M : Mem} (hC : rC p R s m args meth c cells slots D aC ad 2 cX11_housesQuarrel RX11 5 122 (some .boolean)) (hQ : ∀ (pc : Nat) (L : List (Nat × RV)) (z : Int) (M : Mem), decode cX11_housesQuarrel pc = .ok (.ireturn, 1) → 0 ≤ z → z ≤ 1 → Q z M → rG p l e R s m args below meth c cells slots Qs D aC ad 2 pc L [vI z] M) (hX2 : ∀ (x1 : Int) (M : Mem), X2 x1 M → rG p l e R s m args below meth c cells slots Qs D aC ad 2 2 [(0, vR 0), (1, vI x1)] [] M) (hw : w_S_housesQuarrel_B0 Q X2 x1 M) : rG p l e R s m args below meth c cells slots Qs D aC ad 2 2 [(0, vR 0), (1, vI x1)] [] M := by
  unfold w_S_housesQuarrel_B0 at hw
  refine r_iload_n hC dX11_housesQuarrel_2 rfl rfl ?_
  refine r_bipush hC dX11_housesQuarrel_3 (by decide) ?_
  obtain ⟨o1, hw⟩ := hw
  obtain ⟨hwt, hwf⟩ := hw
  refine r_icmp_ge hC 50 dX11_housesQuarrel_5 (by decide) o1.1 o1.2 (by decide) (by decide) (fun c3 => ?_) (fun c3 => ?_)
  · have hw := hwt c3
    refine r_iconst hC dX11_housesQuarrel_50 ?_
    exact hQ _ _ _ _ dX11_housesQuarrel_51 (by decide) (by decide) hw
  · have hw := hwf c3
    refine r_aload_n hC dX11_housesQuarrel_8 rfl rfl ?_
    refine r_getR hC 5 rfl (by decide) kf11_41 rfl rfl dX11_housesQuarrel_9 ?_
    refine r_iload_n hC dX11_housesQuarrel_12 rfl rfl ?_
    refine r_callV hC (d_Houses_widestOn hw) rfl kC1_widestOn km11_407 kI1_widestOn kS1_widestOn kN1 dd_1_widestOn ⟨Nat.le_of_ble_eq_true rfl, Nat.le_of_ble_eq_true rfl⟩ rfl (Nat.le_of_ble_eq_true rfl) dX11_housesQuarrel_13 (fun r M' hp => ?_)
    obtain ⟨rfl, a5, rfl, hw⟩ := hp
    try dsimp only at hw
    obtain ⟨o6, hw⟩ := hw
    obtain ⟨hwt, hwf⟩ := hw
    refine r_if_le hC 44 dX11_housesQuarrel_16 (by decide) o6.1 o6.2 (fun c8 => ?_) (fun c8 => ?_)
    · have hw := hwt c8
      refine r_iinc hC dX11_housesQuarrel_44 rfl (by decide) ?_
      refine r_goto hC 2 dX11_housesQuarrel_47 (by decide) ?_
      exact r_subk (hX2 _ _ hw) ⟨rfl, rfl, trivial⟩
    · have hw := hwf c8
      refine r_aload_n hC dX11_housesQuarrel_19 rfl rfl ?_
      refine r_getR hC 4 rfl (by decide) kf11_34 rfl rfl dX11_housesQuarrel_20 ?_
      refine r_aload_n hC dX11_housesQuarrel_23 rfl rfl ?_
      refine r_getR hC 0 rfl (by decide) kf11_10 rfl rfl dX11_housesQuarrel_24 ?_
      refine r_iload_n hC dX11_housesQuarrel_27 rfl rfl ?_
      refine r_callV hC (d_Words_look hw) rfl kC9_look km11_188 kI9_look kS9_look kN9 dd_9_look ⟨Nat.le_of_ble_eq_true rfl, Nat.le_of_ble_eq_true rfl⟩ rfl (Nat.le_of_ble_eq_true rfl) dX11_housesQuarrel_28 (fun r M' hp => ?_)
      obtain ⟨rfl, hw⟩ := hp
      try dsimp only at hw
      refine r_aload_n hC dX11_housesQuarrel_31 rfl rfl ?_
      refine r_getR hC 4 rfl (by decide) kf11_34 rfl rfl dX11_housesQuarrel_32 ?_
      refine r_iload_n hC dX11_housesQuarrel_35 rfl rfl ?_
      refine r_callV hC (d_Words_countKept hw) rfl kC9_countKept km11_195 kI9_countKept kS9_countKept kN9 dd_9_countKept ⟨Nat.le_of_ble_eq_true rfl, Nat.le_of_ble_eq_true rfl⟩ rfl (Nat.le_of_ble_eq_true rfl) dX11_housesQuarrel_36 (fun r M' hp => ?_)
      obtain ⟨rfl, a11, rfl, hw⟩ := hp
      try dsimp only at hw
      obtain ⟨o12, hw⟩ := hw
      obtain ⟨hwt, hwf⟩ := hw
      refine r_if_ne hC 44 dX11_housesQuarrel_39 (by decide) o12.1 o12.2 (fun c14 => ?_) (fun c14 => ?_)
      · have hw := hwt c14
        refine r_iinc hC dX11_housesQuarrel_44 rfl (by decide) ?_
        refine r_goto hC 2 dX11_housesQuarrel_47 (by decide) ?_
        exact r_subk (hX2 _ _ hw) ⟨rfl, rfl, trivial⟩
      · have hw := hwf c14
        refine r_iconst hC dX11_housesQuarrel_42 ?_
        exact hQ _ _ _ _ dX11_housesQuarrel_43 (by decide) (by decide) hw
def w_S_housesQuarrel_L0 (Q : Int → Mem → Prop) (x1 : Int) (M : Mem) : Prop :=
  ∀ X : Int → Mem → Prop, (∀ (x1 : Int) (M : Mem), w_S_housesQuarrel_B0 Q X x1 M → X x1 M) → X x1 M
set_option maxRecDepth 100000 in
set_option maxHeartbeats 4000000 in
theorem s_S_housesQuarrel_L0 {Q : Int → Mem → Prop} {x1 : Int} {M : Mem} (hC : rC p R s m args meth c cells slots D aC ad 2 cX11_housesQuarrel RX11 5 122 (some .boolean)) (hQ : ∀ (pc : Nat) (L : List (Nat × RV)) (z : Int) (M : Mem), decode cX11_housesQuarrel pc = .ok (.ireturn, 1) → 0 ≤ z → z ≤ 1 → Q z M → rG p l e R s m args below meth c cells slots Qs D aC ad 2 pc L [vI z] M) (hw : w_S_housesQuarrel_L0 Q x1 M) : rG p l e R s m args below meth c cells slots Qs D aC ad 2 2 [(0, vR 0), (1, vI x1)] [] M := by
  unfold w_S_housesQuarrel_L0 at hw
  exact hw (fun x1 M => rG p l e R s m args below meth c cells slots Qs D aC ad 2 2 [(0, vR 0), (1, vI x1)] [] M) (fun x1 M hb => s_S_housesQuarrel_B0 hC hQ (fun _ _ h => h) hb)
def w_S_housesQuarrel (M : Mem) (Q : Int → Mem → Prop) : Prop :=
  w_S_housesQuarrel_L0 Q 0 M
set_option maxRecDepth 100000 in
set_option maxHeartbeats 4000000 in
theorem s_S_housesQuarrel {M : Mem} {Q : Int → Mem → Prop} (hC : rC p R s m args meth c cells slots D aC ad 2 cX11_housesQuarrel RX11 5 122 (some .boolean)) (hQ : ∀ (pc : Nat) (L : List (Nat × RV)) (z : Int) (M : Mem), decode cX11_housesQuarrel pc = .ok (.ireturn, 1) → 0 ≤ z → z ≤ 1 → Q z M → rG p l e R s m args below meth c cells slots Qs D aC ad 2 pc L [vI z] M) (hw : w_S_housesQuarrel M Q) : rG p l e R s m args below meth c cells slots Qs D aC ad 2 0 [(0, vR 0)] [] M := by
  unfold w_S_housesQuarrel at hw
  refine r_iconst hC dX11_housesQuarrel_0 ?_
  refine r_istore_n hC dX11_housesQuarrel_1 rfl (by decide) ?_
  exact r_subk (s_S_housesQuarrel_L0 hC hQ hw) ⟨rfl, rfl, trivial⟩
set_option maxRecDepth 100000 in
set_option maxHeartbeats 4000000 in
theorem d_S_housesQuarrel {l : Launch} {D : va_G} {aC : Nat → ClassId} {ad : Nat → Nat} {M : Mem} {Q : Int → Mem → Prop} (hw : w_S_housesQuarrel M Q) : Does l D aC ad yX11_housesQuarrel cX11_housesQuarrel 2 (some .boolean) 5 122 [vR 0] M (pI Q) :=
  Does.of (by decide) (Nat.le_of_ble_eq_true rfl) (fun p e R s m args below meth c hC => r_subk (s_S_housesQuarrel hC (fun pc L z M d z1 z2 h => r_zret hC d z1 z2 ⟨z, rfl, h⟩) hw) ⟨rfl, trivial⟩)
/-- SoupSand$Works.forgetVerdicts -/
def w_Works_forgetVerdicts_B0 (Q : Mem → Prop) (X2 : Int → Mem → Prop) (x1 : Int) (M : Mem) : Prop :=
  (-2147483648 ≤ x1 ∧ x1 ≤ 2147483647) ∧ ((384 ≤ x1 → Q M) ∧ (¬ (384 ≤ x1) → (0 ≤ x1 ∧ x1 < 384) ∧ (∀ M5 : Mem, M5 = mset M 49 x1 0 → X2 (x1 + 1) M5)))
set_option maxRecDepth 100000 in
set_option maxHeartbeats 4000000 in
theorem s_Works_forgetVerdicts_B0 {Q : Mem → Prop} {X2 : Int → Mem → Prop} {x1 : Int} {M : Mem} (hC : rC p R s m args meth c cells slots D aC ad 2 cX10_forgetVerdicts RX10 0 0 none) (hQ : ∀ (pc : Nat) (L : List (Nat × RV)) (M : Mem), decode cX10_forgetVerdicts pc = .ok (.return_, 1) → Q M → rG p l e R s m args below meth c cells slots Qs D aC ad 2 pc L [] M) (hX2 : ∀ (x1 : Int) (M : Mem), X2 x1 M → rG p l e R s m args below meth c cells slots Qs D aC ad 2 2 [(0, vR 8), (1, vI x1)] [] M) (hw : w_Works_forgetVerdicts_B0 Q X2 x1 M) : rG p l e R s m args below meth c cells slots Qs D aC ad 2 2 [(0, vR 8), (1, vI x1)] [] M := by
  unfold w_Works_forgetVerdicts_B0 at hw
  refine r_iload_n hC dX10_forgetVerdicts_2 rfl rfl ?_
  refine r_aload_n hC dX10_forgetVerdicts_3 rfl rfl ?_
  refine r_getR hC 4 rfl (by decide) kf10_24 rfl rfl dX10_forgetVerdicts_4 ?_
  refine r_alen hC (h := 49) rfl (by decide) (by decide) dX10_forgetVerdicts_7 ?_
  obtain ⟨o1, hw⟩ := hw
  obtain ⟨hwt, hwf⟩ := hw
  refine r_icmp_ge hC 24 dX10_forgetVerdicts_8 (by decide) o1.1 o1.2 (by decide) (by decide) (fun c3 => ?_) (fun c3 => ?_)
  · have hw := hwt c3
    exact hQ _ _ _ dX10_forgetVerdicts_24 hw
  · have hw := hwf c3
    refine r_aload_n hC dX10_forgetVerdicts_11 rfl rfl ?_
    refine r_getR hC 4 rfl (by decide) kf10_24 rfl rfl dX10_forgetVerdicts_12 ?_
    refine r_iload_n hC dX10_forgetVerdicts_15 rfl rfl ?_
    refine r_iconst hC dX10_forgetVerdicts_16 ?_
    obtain ⟨o4, hw⟩ := hw
    refine r_iast hC rfl o4.1 o4.2 (by decide) (by decide) (by decide) (by decide) dX10_forgetVerdicts_17 ?_
    replace hw := hw _ rfl
    refine r_iinc hC dX10_forgetVerdicts_18 rfl (by decide) ?_
    refine r_goto hC 2 dX10_forgetVerdicts_21 (by decide) ?_
    exact r_subk (hX2 _ _ hw) ⟨rfl, rfl, trivial⟩
def w_Works_forgetVerdicts_L0 (Q : Mem → Prop) (x1 : Int) (M : Mem) : Prop :=
  ∀ X : Int → Mem → Prop, (∀ (x1 : Int) (M : Mem), w_Works_forgetVerdicts_B0 Q X x1 M → X x1 M) → X x1 M
set_option maxRecDepth 100000 in
set_option maxHeartbeats 4000000 in
theorem s_Works_forgetVerdicts_L0 {Q : Mem → Prop} {x1 : Int} {M : Mem} (hC : rC p R s m args meth c cells slots D aC ad 2 cX10_forgetVerdicts RX10 0 0 none) (hQ : ∀ (pc : Nat) (L : List (Nat × RV)) (M : Mem), decode cX10_forgetVerdicts pc = .ok (.return_, 1) → Q M → rG p l e R s m args below meth c cells slots Qs D aC ad 2 pc L [] M) (hw : w_Works_forgetVerdicts_L0 Q x1 M) : rG p l e R s m args below meth c cells slots Qs D aC ad 2 2 [(0, vR 8), (1, vI x1)] [] M := by
  unfold w_Works_forgetVerdicts_L0 at hw
  exact hw (fun x1 M => rG p l e R s m args below meth c cells slots Qs D aC ad 2 2 [(0, vR 8), (1, vI x1)] [] M) (fun x1 M hb => s_Works_forgetVerdicts_B0 hC hQ (fun _ _ h => h) hb)
def w_Works_forgetVerdicts (M : Mem) (Q : Mem → Prop) : Prop :=
  w_Works_forgetVerdicts_L0 Q 0 M
set_option maxRecDepth 100000 in
set_option maxHeartbeats 4000000 in
theorem s_Works_forgetVerdicts {M : Mem} {Q : Mem → Prop} (hC : rC p R s m args meth c cells slots D aC ad 2 cX10_forgetVerdicts RX10 0 0 none) (hQ : ∀ (pc : Nat) (L : List (Nat × RV)) (M : Mem), decode cX10_forgetVerdicts pc = .ok (.return_, 1) → Q M → rG p l e R s m args below meth c cells slots Qs D aC ad 2 pc L [] M) (hw : w_Works_forgetVerdicts M Q) : rG p l e R s m args below meth c cells slots Qs D aC ad 2 0 [(0, vR 8)] [] M := by
  unfold w_Works_forgetVerdicts at hw
  refine r_iconst hC dX10_forgetVerdicts_0 ?_
  refine r_istore_n hC dX10_forgetVerdicts_1 rfl (by decide) ?_
  exact r_subk (s_Works_forgetVerdicts_L0 hC hQ hw) ⟨rfl, rfl, trivial⟩
set_option maxRecDepth 100000 in
set_option maxHeartbeats 4000000 in
theorem d_Works_forgetVerdicts {l : Launch} {D : va_G} {aC : Nat → ClassId} {ad : Nat → Nat} {M : Mem} {Q : Mem → Prop} (hw : w_Works_forgetVerdicts M Q) : Does l D aC ad yX10_forgetVerdicts cX10_forgetVerdicts 2 none 0 0 [vR 8] M (pV Q) :=
  Does.of (by decide) (Nat.le_of_ble_eq_true rfl) (fun p e R s m args below meth c hC => r_subk (s_Works_forgetVerdicts hC (fun pc L M d h => r_vret hC d ⟨rfl, h⟩) hw) ⟨rfl, trivial⟩)
/-- SoupSand$Works.setOn -/
def w_Works_setOn_B0 (Q : Int → Prop) (x1 : Int) (M : Mem) (X4 : Int → Int → Prop) (x2 : Int) (x3 : Int) : Prop :=
  ∀ a1 : Int, a1 = M 8 5 → 0 ≤ a1 → a1 ≤ 6 → (-2147483648 ≤ x3 ∧ x3 ≤ 2147483647) ∧ ((a1 ≤ x3 → Q x2) ∧ (¬ (a1 ≤ x3) → (0 ≤ x3 ∧ x3 < 6) ∧ (∀ a7 : Int, a7 = M 45 x3 → 0 ≤ a7 → a7 ≤ 5 → (-2147483648 ≤ x1 ∧ x1 ≤ 2147483647) ∧ ((¬ (a7 = x1) → X4 x2 (x3 + 1)) ∧ (a7 = x1 → X4 (bOr x2 (bShl 1 x3)) (x3 + 1))))))
set_option maxRecDepth 100000 in
set_option maxHeartbeats 4000000 in
theorem s_Works_setOn_B0 {Q : Int → Prop} {x1 : Int} {M : Mem} {X4 : Int → Int → Prop} {x2 : Int} {x3 : Int} (hC : rC p R s m args meth c cells slots D aC ad 4 cX10_setOn RX10 0 0 (some .int)) (hQ : ∀ (pc : Nat) (L : List (Nat × RV)) (z : Int), decode cX10_setOn pc = .ok (.ireturn, 1) → Q z → rG p l e R s m args below meth c cells slots Qs D aC ad 4 pc L [vI z] M) (hX4 : ∀ (x2 : Int) (x3 : Int), X4 x2 x3 → rG p l e R s m args below meth c cells slots Qs D aC ad 4 4 [(0, vR 8), (1, vI x1), (2, vI x2), (3, vI x3)] [] M) (hw : w_Works_setOn_B0 Q x1 M X4 x2 x3) : rG p l e R s m args below meth c cells slots Qs D aC ad 4 4 [(0, vR 8), (1, vI x1), (2, vI x2), (3, vI x3)] [] M := by
  unfold w_Works_setOn_B0 at hw
  refine r_iload_n hC dX10_setOn_4 rfl rfl ?_
  refine r_aload_n hC dX10_setOn_5 rfl rfl ?_
  refine r_getI hC 5 rfl (by decide) kf10_27 rfl rfl dX10_setOn_6 (fun b2 b2' => ?_)
  replace hw := hw _ rfl b2 b2'
  obtain ⟨o3, hw⟩ := hw
  obtain ⟨hwt, hwf⟩ := hw
  refine r_icmp_ge hC 34 dX10_setOn_9 (by decide) o3.1 o3.2 (by omega) (by omega) (fun c5 => ?_) (fun c5 => ?_)
  · have hw := hwt c5
    refine r_iload_n hC dX10_setOn_34 rfl rfl ?_
    exact hQ _ _ _ dX10_setOn_35 hw
  · have hw := hwf c5
    refine r_aload_n hC dX10_setOn_12 rfl rfl ?_
    refine r_getR hC 0 rfl (by decide) kf10_9 rfl rfl dX10_setOn_13 ?_
    refine r_iload_n hC dX10_setOn_16 rfl rfl ?_
    obtain ⟨o6, hw⟩ := hw
    refine r_iald hC rfl o6.1 o6.2 (by decide) (by decide) dX10_setOn_17 (fun b8 b8' => ?_)
    replace hw := hw _ rfl b8 b8'
    refine r_iload_n hC dX10_setOn_18 rfl rfl ?_
    obtain ⟨o10, hw⟩ := hw
    obtain ⟨hwt, hwf⟩ := hw
    refine r_icmp_ne hC 28 dX10_setOn_19 (by decide) (by omega) (by omega) o10.1 o10.2 (fun c11 => ?_) (fun c11 => ?_)
    · have hw := hwt c11
      refine r_iinc hC dX10_setOn_28 rfl (by decide) ?_
      refine r_goto hC 4 dX10_setOn_31 (by decide) ?_
      exact r_subk (hX4 _ _ hw) ⟨rfl, rfl, rfl, rfl, trivial⟩
    · have hw := hwf c11
      refine r_iload_n hC dX10_setOn_22 rfl rfl ?_
      refine r_iconst hC dX10_setOn_23 ?_
      refine r_iload_n hC dX10_setOn_24 rfl rfl ?_
      refine r_ishl hC dX10_setOn_25 ?_
      refine r_ior hC dX10_setOn_26 ?_
      refine r_istore_n hC dX10_setOn_27 rfl (by decide) ?_
      refine r_iinc hC dX10_setOn_28 rfl (by decide) ?_
      refine r_goto hC 4 dX10_setOn_31 (by decide) ?_
      exact r_subk (hX4 _ _ hw) ⟨rfl, rfl, rfl, rfl, trivial⟩
def w_Works_setOn_L0 (Q : Int → Prop) (x1 : Int) (M : Mem) (x2 : Int) (x3 : Int) : Prop :=
  ∀ X : Int → Int → Prop, (∀ (x2 : Int) (x3 : Int), w_Works_setOn_B0 Q x1 M X x2 x3 → X x2 x3) → X x2 x3
set_option maxRecDepth 100000 in
set_option maxHeartbeats 4000000 in
theorem s_Works_setOn_L0 {Q : Int → Prop} {x1 : Int} {M : Mem} {x2 : Int} {x3 : Int} (hC : rC p R s m args meth c cells slots D aC ad 4 cX10_setOn RX10 0 0 (some .int)) (hQ : ∀ (pc : Nat) (L : List (Nat × RV)) (z : Int), decode cX10_setOn pc = .ok (.ireturn, 1) → Q z → rG p l e R s m args below meth c cells slots Qs D aC ad 4 pc L [vI z] M) (hw : w_Works_setOn_L0 Q x1 M x2 x3) : rG p l e R s m args below meth c cells slots Qs D aC ad 4 4 [(0, vR 8), (1, vI x1), (2, vI x2), (3, vI x3)] [] M := by
  unfold w_Works_setOn_L0 at hw
  exact hw (fun x2 x3 => rG p l e R s m args below meth c cells slots Qs D aC ad 4 4 [(0, vR 8), (1, vI x1), (2, vI x2), (3, vI x3)] [] M) (fun x2 x3 hb => s_Works_setOn_B0 hC hQ (fun _ _ h => h) hb)
def w_Works_setOn (M : Mem) (x1 : Int) (Q : Int → Prop) : Prop :=
  w_Works_setOn_L0 Q x1 M 0 0
set_option maxRecDepth 100000 in
set_option maxHeartbeats 4000000 in
theorem s_Works_setOn {M : Mem} {x1 : Int} {Q : Int → Prop} (hC : rC p R s m args meth c cells slots D aC ad 4 cX10_setOn RX10 0 0 (some .int)) (hQ : ∀ (pc : Nat) (L : List (Nat × RV)) (z : Int), decode cX10_setOn pc = .ok (.ireturn, 1) → Q z → rG p l e R s m args below meth c cells slots Qs D aC ad 4 pc L [vI z] M) (hw : w_Works_setOn M x1 Q) : rG p l e R s m args below meth c cells slots Qs D aC ad 4 0 [(0, vR 8), (1, vI x1)] [] M := by
  unfold w_Works_setOn at hw
  refine r_iconst hC dX10_setOn_0 ?_
  refine r_istore_n hC dX10_setOn_1 rfl (by decide) ?_
  refine r_iconst hC dX10_setOn_2 ?_
  refine r_istore_n hC dX10_setOn_3 rfl (by decide) ?_
  exact r_subk (s_Works_setOn_L0 hC hQ hw) ⟨rfl, rfl, rfl, rfl, trivial⟩
set_option maxRecDepth 100000 in
set_option maxHeartbeats 4000000 in
theorem d_Works_setOn {l : Launch} {D : va_G} {aC : Nat → ClassId} {ad : Nat → Nat} {M : Mem} {x1 : Int} {Q : Int → Prop} (hw : w_Works_setOn M x1 Q) : Does l D aC ad yX10_setOn cX10_setOn 4 (some .int) 0 0 [vR 8, vI x1] M (qI M Q) :=
  Does.of (by decide) (Nat.le_of_ble_eq_true rfl) (fun p e R s m args below meth c hC => r_subk (s_Works_setOn hC (fun pc L z d h => r_iret hC d ⟨rfl, ⟨z, rfl, h⟩⟩) hw) ⟨rfl, rfl, trivial⟩)
/-- SoupSand$Works.holds -/
def w_Works_holds (M : Mem) (x0 : Int) (x1 : Int) (Q : Int → Prop) : Prop :=
  (-2147483648 ≤ bAnd (bShr x0 x1) 1 ∧ bAnd (bShr x0 x1) 1 ≤ 2147483647) ∧ ((¬ (bAnd (bShr x0 x1) 1 = 1) → Q 0) ∧ (bAnd (bShr x0 x1) 1 = 1 → Q 1))
set_option maxRecDepth 100000 in
set_option maxHeartbeats 4000000 in
theorem s_Works_holds {M : Mem} {x0 : Int} {x1 : Int} {Q : Int → Prop} (hC : rC p R s m args meth c cells slots D aC ad 2 cX10_holds RX10 0 0 (some .boolean)) (hQ : ∀ (pc : Nat) (L : List (Nat × RV)) (z : Int), decode cX10_holds pc = .ok (.ireturn, 1) → 0 ≤ z → z ≤ 1 → Q z → rG p l e R s m args below meth c cells slots Qs D aC ad 2 pc L [vI z] M) (hw : w_Works_holds M x0 x1 Q) : rG p l e R s m args below meth c cells slots Qs D aC ad 2 0 [(0, vI x0), (1, vI x1)] [] M := by
  unfold w_Works_holds at hw
  refine r_iload_n hC dX10_holds_0 rfl rfl ?_
  refine r_iload_n hC dX10_holds_1 rfl rfl ?_
  refine r_ishr hC dX10_holds_2 ?_
  refine r_iconst hC dX10_holds_3 ?_
  refine r_iand hC dX10_holds_4 ?_
  refine r_iconst hC dX10_holds_5 ?_
  obtain ⟨o1, hw⟩ := hw
  obtain ⟨hwt, hwf⟩ := hw
  refine r_icmp_ne hC 13 dX10_holds_6 (by decide) o1.1 o1.2 (by decide) (by decide) (fun c3 => ?_) (fun c3 => ?_)
  · have hw := hwt c3
    refine r_iconst hC dX10_holds_13 ?_
    exact hQ _ _ _ dX10_holds_14 (by decide) (by decide) hw
  · have hw := hwf c3
    refine r_iconst hC dX10_holds_9 ?_
    refine r_goto hC 14 dX10_holds_10 (by decide) ?_
    exact hQ _ _ _ dX10_holds_14 (by decide) (by decide) hw
set_option maxRecDepth 100000 in
set_option maxHeartbeats 4000000 in
theorem d_Works_holds {l : Launch} {D : va_G} {aC : Nat → ClassId} {ad : Nat → Nat} {M : Mem} {x0 : Int} {x1 : Int} {Q : Int → Prop} (hw : w_Works_holds M x0 x1 Q) : Does l D aC ad yX10_holds cX10_holds 2 (some .boolean) 0 0 [vI x0, vI x1] M (qI M Q) :=
  Does.of (by decide) (Nat.le_of_ble_eq_true rfl) (fun p e R s m args below meth c hC => r_subk (s_Works_holds hC (fun pc L z d z1 z2 h => r_zret hC d z1 z2 ⟨rfl, ⟨z, rfl, h⟩⟩) hw) ⟨rfl, rfl, trivial⟩)
theorem dd_10_holds : yX10_holds.cls ≠ "java/lang/invoke/MethodHandle" ∧ yX10_holds.cls ≠ "java/lang/invoke/VarHandle" ∧ (parseMethodDescriptor yX10_holds.desc).map (fun d => d.parameters.length) = some 2 := by decide +kernel
/-- SoupSand$Works.sumOn -/
def w_Works_sumOn_B0 (Q : Int → Prop) (x1 : Int) (x2 : Int) (x3 : Int) (M : Mem) (X6 : Int → Int → Prop) (x4 : Int) (x5 : Int) : Prop :=
  ∀ a1 : Int, a1 = M 8 5 → 0 ≤ a1 → a1 ≤ 6 → (-2147483648 ≤ x5 ∧ x5 ≤ 2147483647) ∧ ((a1 ≤ x5 → Q x4) ∧ (¬ (a1 ≤ x5) → w_Works_holds M x3 x5 (fun a6 => (-2147483648 ≤ a6 ∧ a6 ≤ 2147483647) ∧ ((a6 = 0 → X6 x4 (x5 + 1)) ∧ (¬ (a6 = 0) → (0 ≤ x5 ∧ x5 < 6) ∧ (∀ a11 : Int, a11 = M 45 x5 → 0 ≤ a11 → a11 ≤ 5 → (-2147483648 ≤ x1 ∧ x1 ≤ 2147483647) ∧ ((¬ (a11 = x1) → X6 x4 (x5 + 1)) ∧ (a11 = x1 → (0 ≤ x5 ∧ x5 < 6) ∧ (∀ a17 : Int, a17 = M 46 x5 → 0 ≤ a17 → a17 ≤ 1 → (-2147483648 ≤ x2 ∧ x2 ≤ 2147483647) ∧ ((¬ (a17 = x2) → X6 x4 (x5 + 1)) ∧ (a17 = x2 → (0 ≤ x5 ∧ x5 < 6) ∧ (∀ a23 : Int, a23 = M 47 x5 → 0 ≤ a23 → a23 ≤ 500 → X6 (x4 + a23) (x5 + 1)))))))))))))
set_option maxRecDepth 100000 in
set_option maxHeartbeats 4000000 in
theorem s_Works_sumOn_B0 {Q : Int → Prop} {x1 : Int} {x2 : Int} {x3 : Int} {M : Mem} {X6 : Int → Int → Prop} {x4 : Int} {x5 : Int} (hC : rC p R s m args meth c cells slots D aC ad 6 cX10_sumOn RX10 1 21 (some .int)) (hQ : ∀ (pc : Nat) (L : List (Nat × RV)) (z : Int), decode cX10_sumOn pc = .ok (.ireturn, 1) → Q z → rG p l e R s m args below meth c cells slots Qs D aC ad 6 pc L [vI z] M) (hX6 : ∀ (x4 : Int) (x5 : Int), X6 x4 x5 → rG p l e R s m args below meth c cells slots Qs D aC ad 6 6 [(0, vR 8), (1, vI x1), (2, vI x2), (3, vI x3), (4, vI x4), (5, vI x5)] [] M) (hw : w_Works_sumOn_B0 Q x1 x2 x3 M X6 x4 x5) : rG p l e R s m args below meth c cells slots Qs D aC ad 6 6 [(0, vR 8), (1, vI x1), (2, vI x2), (3, vI x3), (4, vI x4), (5, vI x5)] [] M := by
  unfold w_Works_sumOn_B0 at hw
  refine r_iload hC dX10_sumOn_6 rfl ?_
  refine r_aload_n hC dX10_sumOn_8 rfl rfl ?_
  refine r_getI hC 5 rfl (by decide) kf10_27 rfl rfl dX10_sumOn_9 (fun b2 b2' => ?_)
  replace hw := hw _ rfl b2 b2'
  obtain ⟨o3, hw⟩ := hw
  obtain ⟨hwt, hwf⟩ := hw
  refine r_icmp_ge hC 64 dX10_sumOn_12 (by decide) o3.1 o3.2 (by omega) (by omega) (fun c5 => ?_) (fun c5 => ?_)
  · have hw := hwt c5
    refine r_iload hC dX10_sumOn_64 rfl ?_
    exact hQ _ _ _ dX10_sumOn_66 hw
  · have hw := hwf c5
    refine r_iload_n hC dX10_sumOn_15 rfl rfl ?_
    refine r_iload hC dX10_sumOn_16 rfl ?_
    refine r_callS hC (d_Works_holds hw) kC10_holds km10_31 kT10_holds kN10 dd_10_holds ⟨Nat.le_of_ble_eq_true rfl, Nat.le_of_ble_eq_true rfl⟩ rfl (Nat.le_of_ble_eq_true rfl) dX10_sumOn_18 (fun r M' hp => ?_)
    obtain ⟨rfl, a6, rfl, hw⟩ := hp
    try dsimp only at hw
    obtain ⟨o7, hw⟩ := hw
    obtain ⟨hwt, hwf⟩ := hw
    refine r_if_eq hC 58 dX10_sumOn_21 (by decide) o7.1 o7.2 (fun c9 => ?_) (fun c9 => ?_)
    · have hw := hwt c9
      refine r_iinc hC dX10_sumOn_58 rfl (by decide) ?_
      refine r_goto hC 6 dX10_sumOn_61 (by decide) ?_
      exact r_subk (hX6 _ _ hw) ⟨rfl, rfl, rfl, rfl, rfl, rfl, trivial⟩
    · have hw := hwf c9
      refine r_aload_n hC dX10_sumOn_24 rfl rfl ?_
      refine r_getR hC 0 rfl (by decide) kf10_9 rfl rfl dX10_sumOn_25 ?_
      refine r_iload hC dX10_sumOn_28 rfl ?_
      obtain ⟨o10, hw⟩ := hw
      refine r_iald hC rfl o10.1 o10.2 (by decide) (by decide) dX10_sumOn_30 (fun b12 b12' => ?_)
      replace hw := hw _ rfl b12 b12'
      refine r_iload_n hC dX10_sumOn_31 rfl rfl ?_
      obtain ⟨o14, hw⟩ := hw
      obtain ⟨hwt, hwf⟩ := hw
      refine r_icmp_ne hC 58 dX10_sumOn_32 (by decide) (by omega) (by omega) o14.1 o14.2 (fun c15 => ?_) (fun c15 => ?_)
      · have hw := hwt c15
        refine r_iinc hC dX10_sumOn_58 rfl (by decide) ?_
        refine r_goto hC 6 dX10_sumOn_61 (by decide) ?_
        exact r_subk (hX6 _ _ hw) ⟨rfl, rfl, rfl, rfl, rfl, rfl, trivial⟩
      · have hw := hwf c15
        refine r_aload_n hC dX10_sumOn_35 rfl rfl ?_
        refine r_getR hC 1 rfl (by decide) kf10_15 rfl rfl dX10_sumOn_36 ?_
        refine r_iload hC dX10_sumOn_39 rfl ?_
        obtain ⟨o16, hw⟩ := hw
        refine r_iald hC rfl o16.1 o16.2 (by decide) (by decide) dX10_sumOn_41 (fun b18 b18' => ?_)
        replace hw := hw _ rfl b18 b18'
        refine r_iload_n hC dX10_sumOn_42 rfl rfl ?_
        obtain ⟨o20, hw⟩ := hw
        obtain ⟨hwt, hwf⟩ := hw
        refine r_icmp_ne hC 58 dX10_sumOn_43 (by decide) (by omega) (by omega) o20.1 o20.2 (fun c21 => ?_) (fun c21 => ?_)
        · have hw := hwt c21
          refine r_iinc hC dX10_sumOn_58 rfl (by decide) ?_
          refine r_goto hC 6 dX10_sumOn_61 (by decide) ?_
          exact r_subk (hX6 _ _ hw) ⟨rfl, rfl, rfl, rfl, rfl, rfl, trivial⟩
        · have hw := hwf c21
          refine r_iload hC dX10_sumOn_46 rfl ?_
          refine r_aload_n hC dX10_sumOn_48 rfl rfl ?_
          refine r_getR hC 2 rfl (by decide) kf10_18 rfl rfl dX10_sumOn_49 ?_
          refine r_iload hC dX10_sumOn_52 rfl ?_
          obtain ⟨o22, hw⟩ := hw
          refine r_iald hC rfl o22.1 o22.2 (by decide) (by decide) dX10_sumOn_54 (fun b24 b24' => ?_)
          replace hw := hw _ rfl b24 b24'
          refine r_iadd hC dX10_sumOn_55 ?_
          refine r_istore hC dX10_sumOn_56 (by decide) ?_
          refine r_iinc hC dX10_sumOn_58 rfl (by decide) ?_
          refine r_goto hC 6 dX10_sumOn_61 (by decide) ?_
          exact r_subk (hX6 _ _ hw) ⟨rfl, rfl, rfl, rfl, rfl, rfl, trivial⟩
def w_Works_sumOn_L0 (Q : Int → Prop) (x1 : Int) (x2 : Int) (x3 : Int) (M : Mem) (x4 : Int) (x5 : Int) : Prop :=
  ∀ X : Int → Int → Prop, (∀ (x4 : Int) (x5 : Int), w_Works_sumOn_B0 Q x1 x2 x3 M X x4 x5 → X x4 x5) → X x4 x5
set_option maxRecDepth 100000 in
set_option maxHeartbeats 4000000 in
theorem s_Works_sumOn_L0 {Q : Int → Prop} {x1 : Int} {x2 : Int} {x3 : Int} {M : Mem} {x4 : Int} {x5 : Int} (hC : rC p R s m args meth c cells slots D aC ad 6 cX10_sumOn RX10 1 21 (some .int)) (hQ : ∀ (pc : Nat) (L : List (Nat × RV)) (z : Int), decode cX10_sumOn pc = .ok (.ireturn, 1) → Q z → rG p l e R s m args below meth c cells slots Qs D aC ad 6 pc L [vI z] M) (hw : w_Works_sumOn_L0 Q x1 x2 x3 M x4 x5) : rG p l e R s m args below meth c cells slots Qs D aC ad 6 6 [(0, vR 8), (1, vI x1), (2, vI x2), (3, vI x3), (4, vI x4), (5, vI x5)] [] M := by
  unfold w_Works_sumOn_L0 at hw
  exact hw (fun x4 x5 => rG p l e R s m args below meth c cells slots Qs D aC ad 6 6 [(0, vR 8), (1, vI x1), (2, vI x2), (3, vI x3), (4, vI x4), (5, vI x5)] [] M) (fun x4 x5 hb => s_Works_sumOn_B0 hC hQ (fun _ _ h => h) hb)
def w_Works_sumOn (M : Mem) (x1 : Int) (x2 : Int) (x3 : Int) (Q : Int → Prop) : Prop :=
  w_Works_sumOn_L0 Q x1 x2 x3 M 0 0
set_option maxRecDepth 100000 in
set_option maxHeartbeats 4000000 in
theorem s_Works_sumOn {M : Mem} {x1 : Int} {x2 : Int} {x3 : Int} {Q : Int → Prop} (hC : rC p R s m args meth c cells slots D aC ad 6 cX10_sumOn RX10 1 21 (some .int)) (hQ : ∀ (pc : Nat) (L : List (Nat × RV)) (z : Int), decode cX10_sumOn pc = .ok (.ireturn, 1) → Q z → rG p l e R s m args below meth c cells slots Qs D aC ad 6 pc L [vI z] M) (hw : w_Works_sumOn M x1 x2 x3 Q) : rG p l e R s m args below meth c cells slots Qs D aC ad 6 0 [(0, vR 8), (1, vI x1), (2, vI x2), (3, vI x3)] [] M := by
  unfold w_Works_sumOn at hw
  refine r_iconst hC dX10_sumOn_0 ?_
  refine r_istore hC dX10_sumOn_1 (by decide) ?_
  refine r_iconst hC dX10_sumOn_3 ?_
  refine r_istore hC dX10_sumOn_4 (by decide) ?_
  exact r_subk (s_Works_sumOn_L0 hC hQ hw) ⟨rfl, rfl, rfl, rfl, rfl, rfl, trivial⟩
set_option maxRecDepth 100000 in
set_option maxHeartbeats 4000000 in
theorem d_Works_sumOn {l : Launch} {D : va_G} {aC : Nat → ClassId} {ad : Nat → Nat} {M : Mem} {x1 : Int} {x2 : Int} {x3 : Int} {Q : Int → Prop} (hw : w_Works_sumOn M x1 x2 x3 Q) : Does l D aC ad yX10_sumOn cX10_sumOn 6 (some .int) 1 21 [vR 8, vI x1, vI x2, vI x3] M (qI M Q) :=
  Does.of (by decide) (Nat.le_of_ble_eq_true rfl) (fun p e R s m args below meth c hC => r_subk (s_Works_sumOn hC (fun pc L z d h => r_iret hC d ⟨rfl, ⟨z, rfl, h⟩⟩) hw) ⟨rfl, rfl, rfl, rfl, trivial⟩)
theorem dd_10_sumOn : yX10_sumOn.cls ≠ "java/lang/invoke/MethodHandle" ∧ yX10_sumOn.cls ≠ "java/lang/invoke/VarHandle" ∧ (parseMethodDescriptor yX10_sumOn.desc).map (fun d => d.parameters.length) = some 3 := by decide +kernel
/-- SoupSand.columnHolds -/
def w_S_columnHolds_j0 (Q : Int → Mem → Prop) (X12 : Int → Mem → Prop) (X64 : Int → Mem → Prop) (x1 : Int) (x2 : Int) (x3 : Int) (x4 : Int) (x5 : Int) (M : Mem) : Prop :=
  w_Trial_advance M (fun M2 => X64 (x5 + 1) M2)
set_option maxRecDepth 100000 in
set_option maxHeartbeats 4000000 in
theorem s_S_columnHolds_j0 {Q : Int → Mem → Prop} {X12 : Int → Mem → Prop} {X64 : Int → Mem → Prop} {x1 : Int} {x2 : Int} {x3 : Int} {x4 : Int} {x5 : Int} {M : Mem} (hC : rC p R s m args meth c cells slots D aC ad 6 cX11_columnHolds RX11 3 73 (some .boolean)) (hQ : ∀ (pc : Nat) (L : List (Nat × RV)) (z : Int) (M : Mem), decode cX11_columnHolds pc = .ok (.ireturn, 1) → 0 ≤ z → z ≤ 1 → Q z M → rG p l e R s m args below meth c cells slots Qs D aC ad 6 pc L [vI z] M) (hX12 : ∀ (x4 : Int) (M : Mem), X12 x4 M → rG p l e R s m args below meth c cells slots Qs D aC ad 6 12 [(0, vR 0), (1, vI x1), (2, vI x2), (3, vI x3), (4, vI x4)] [] M) (hX64 : ∀ (x5 : Int) (M : Mem), X64 x5 M → rG p l e R s m args below meth c cells slots Qs D aC ad 6 64 [(0, vR 0), (1, vI x1), (2, vI x2), (3, vI x3), (4, vI x4), (5, vI x5)] [] M) (hw : w_S_columnHolds_j0 Q X12 X64 x1 x2 x3 x4 x5 M) : rG p l e R s m args below meth c cells slots Qs D aC ad 6 123 [(0, vR 0), (1, vI x1), (2, vI x2), (3, vI x3), (4, vI x4), (5, vI x5)] [] M := by
  unfold w_S_columnHolds_j0 at hw
  refine r_aload_n hC dX11_columnHolds_123 rfl rfl ?_
  refine r_getR hC 0 rfl (by decide) kf11_10 rfl rfl dX11_columnHolds_124 ?_
  refine r_callV hC (d_Trial_advance hw) rfl kC8_advance km11_219 kI8_advance kS8_advance kN8 dd_8_advance ⟨Nat.le_of_ble_eq_true rfl, Nat.le_of_ble_eq_true rfl⟩ rfl (Nat.le_of_ble_eq_true rfl) dX11_columnHolds_127 (fun r M' hp => ?_)
  obtain ⟨rfl, hw⟩ := hp
  try dsimp only at hw
  refine r_iinc hC dX11_columnHolds_130 rfl (by decide) ?_
  refine r_goto hC 64 dX11_columnHolds_133 (by decide) ?_
  exact r_subk (hX64 _ _ hw) ⟨rfl, rfl, rfl, rfl, rfl, rfl, trivial⟩
def w_S_columnHolds_B1 (Q : Int → Mem → Prop) (X12 : Int → Mem → Prop) (x1 : Int) (x2 : Int) (x3 : Int) (x4 : Int) (X64 : Int → Mem → Prop) (x5 : Int) (M : Mem) : Prop :=
  (0 ≤ x1 ∧ x1 < 6) ∧ (∀ a2 : Int, a2 = M 36 x1 → 0 ≤ a2 → a2 ≤ 729 → (-2147483648 ≤ x5 ∧ x5 ≤ 2147483647) ∧ ((a2 ≤ x5 → X12 (x4 + 1) M) ∧ (¬ (a2 ≤ x5) → w_Trial_place M (fun a7 => w_Words_keep M x1 a7 (fun a8 => (-2147483648 ≤ a8 ∧ a8 ≤ 2147483647) ∧ ((a8 = 0 → w_S_columnHolds_j0 Q X12 X64 x1 x2 x3 x4 x5 M) ∧ (¬ (a8 = 0) → w_Trial_play M (fun M13 => w_Trial_sinkOf M13 x3 (fun a14 => w_Rules_mark M13 (fun a15 => (-2147483648 ≤ a14 ∧ a14 ≤ 2147483647) ∧ ((-2147483648 ≤ a15 ∧ a15 ≤ 2147483647) ∧ ((a14 < a15 → w_S_columnHolds_j0 Q X12 X64 x1 x2 x3 x4 x5 M13) ∧ (¬ (a14 < a15) → Q 0 M13)))))))))))))
set_option maxRecDepth 100000 in
set_option maxHeartbeats 4000000 in
theorem s_S_columnHolds_B1 {Q : Int → Mem → Prop} {X12 : Int → Mem → Prop} {x1 : Int} {x2 : Int} {x3 : Int} {x4 : Int} {X64 : Int → Mem → Prop} {x5 : Int} {M : Mem} (hC : rC p R s m args meth c cells slots D aC ad 6 cX11_columnHolds RX11 3 73 (some .boolean)) (hQ : ∀ (pc : Nat) (L : List (Nat × RV)) (z : Int) (M : Mem), decode cX11_columnHolds pc = .ok (.ireturn, 1) → 0 ≤ z → z ≤ 1 → Q z M → rG p l e R s m args below meth c cells slots Qs D aC ad 6 pc L [vI z] M) (hX12 : ∀ (x4 : Int) (M : Mem), X12 x4 M → rG p l e R s m args below meth c cells slots Qs D aC ad 6 12 [(0, vR 0), (1, vI x1), (2, vI x2), (3, vI x3), (4, vI x4)] [] M) (hX64 : ∀ (x5 : Int) (M : Mem), X64 x5 M → rG p l e R s m args below meth c cells slots Qs D aC ad 6 64 [(0, vR 0), (1, vI x1), (2, vI x2), (3, vI x3), (4, vI x4), (5, vI x5)] [] M) (hw : w_S_columnHolds_B1 Q X12 x1 x2 x3 x4 X64 x5 M) : rG p l e R s m args below meth c cells slots Qs D aC ad 6 64 [(0, vR 0), (1, vI x1), (2, vI x2), (3, vI x3), (4, vI x4), (5, vI x5)] [] M := by
  unfold w_S_columnHolds_B1 at hw
  refine r_iload hC dX11_columnHolds_64 rfl ?_
  refine r_aload_n hC dX11_columnHolds_66 rfl rfl ?_
  refine r_getR hC 4 rfl (by decide) kf11_34 rfl rfl dX11_columnHolds_67 ?_
  refine r_getR hC 7 rfl (by decide) kf11_206 rfl rfl dX11_columnHolds_70 ?_
  refine r_iload_n hC dX11_columnHolds_73 rfl rfl ?_
  obtain ⟨o1, hw⟩ := hw
  refine r_iald hC rfl o1.1 o1.2 (by decide) (by decide) dX11_columnHolds_74 (fun b3 b3' => ?_)
  replace hw := hw _ rfl b3 b3'
  obtain ⟨o4, hw⟩ := hw
  obtain ⟨hwt, hwf⟩ := hw
  refine r_icmp_ge hC 136 dX11_columnHolds_75 (by decide) o4.1 o4.2 (by omega) (by omega) (fun c6 => ?_) (fun c6 => ?_)
  · have hw := hwt c6
    refine r_iinc hC dX11_columnHolds_136 rfl (by decide) ?_
    refine r_goto hC 12 dX11_columnHolds_139 (by decide) ?_
    exact r_subk (hX12 _ _ hw) ⟨rfl, rfl, rfl, rfl, rfl, trivial⟩
  · have hw := hwf c6
    refine r_aload_n hC dX11_columnHolds_78 rfl rfl ?_
    refine r_getR hC 4 rfl (by decide) kf11_34 rfl rfl dX11_columnHolds_79 ?_
    refine r_iload_n hC dX11_columnHolds_82 rfl rfl ?_
    refine r_aload_n hC dX11_columnHolds_83 rfl rfl ?_
    refine r_getR hC 0 rfl (by decide) kf11_10 rfl rfl dX11_columnHolds_84 ?_
    refine r_callV hC (d_Trial_place hw) rfl kC8_place km11_212 kI8_place kS8_place kN8 dd_8_place ⟨Nat.le_of_ble_eq_true rfl, Nat.le_of_ble_eq_true rfl⟩ rfl (Nat.le_of_ble_eq_true rfl) dX11_columnHolds_87 (fun r M' hp => ?_)
    obtain ⟨rfl, a7, rfl, hw⟩ := hp
    try dsimp only at hw
    refine r_callV hC (d_Words_keep hw) rfl kC9_keep km11_216 kI9_keep kS9_keep kN9 dd_9_keep ⟨Nat.le_of_ble_eq_true rfl, Nat.le_of_ble_eq_true rfl⟩ rfl (Nat.le_of_ble_eq_true rfl) dX11_columnHolds_90 (fun r M' hp => ?_)
    obtain ⟨rfl, a8, rfl, hw⟩ := hp
    try dsimp only at hw
    obtain ⟨o9, hw⟩ := hw
    obtain ⟨hwt, hwf⟩ := hw
    refine r_if_eq hC 123 dX11_columnHolds_93 (by decide) o9.1 o9.2 (fun c11 => ?_) (fun c11 => ?_)
    · have hw := hwt c11
      exact r_subk (s_S_columnHolds_j0 hC hQ hX12 hX64 hw) ⟨rfl, rfl, rfl, rfl, rfl, rfl, trivial⟩
    · have hw := hwf c11
      refine r_aload_n hC dX11_columnHolds_96 rfl rfl ?_
      refine r_getR hC 0 rfl (by decide) kf11_10 rfl rfl dX11_columnHolds_97 ?_
      refine r_callV hC (d_Trial_play hw) rfl kC8_play km11_252 kI8_play kS8_play kN8 dd_8_play ⟨Nat.le_of_ble_eq_true rfl, Nat.le_of_ble_eq_true rfl⟩ rfl (Nat.le_of_ble_eq_true rfl) dX11_columnHolds_100 (fun r M' hp => ?_)
      obtain ⟨rfl, hw⟩ := hp
      try dsimp only at hw
      refine r_aload_n hC dX11_columnHolds_103 rfl rfl ?_
      refine r_getR hC 0 rfl (by decide) kf11_10 rfl rfl dX11_columnHolds_104 ?_
      refine r_iload_n hC dX11_columnHolds_107 rfl rfl ?_
      refine r_callV hC (d_Trial_sinkOf hw) rfl kC8_sinkOf km11_309 kI8_sinkOf kS8_sinkOf kN8 dd_8_sinkOf ⟨Nat.le_of_ble_eq_true rfl, Nat.le_of_ble_eq_true rfl⟩ rfl (Nat.le_of_ble_eq_true rfl) dX11_columnHolds_108 (fun r M' hp => ?_)
      obtain ⟨rfl, a14, rfl, hw⟩ := hp
      try dsimp only at hw
      refine r_aload_n hC dX11_columnHolds_111 rfl rfl ?_
      refine r_getR hC 3 rfl (by decide) kf11_30 rfl rfl dX11_columnHolds_112 ?_
      refine r_callV hC (d_Rules_mark hw) rfl kC3_mark km11_292 kI3_mark kS3_mark kN3 dd_3_mark ⟨Nat.le_of_ble_eq_true rfl, Nat.le_of_ble_eq_true rfl⟩ rfl (Nat.le_of_ble_eq_true rfl) dX11_columnHolds_115 (fun r M' hp => ?_)
      obtain ⟨rfl, a15, rfl, hw⟩ := hp
      try dsimp only at hw
      obtain ⟨o16, hw⟩ := hw
      obtain ⟨o17, hw⟩ := hw
      obtain ⟨hwt, hwf⟩ := hw
      refine r_icmp_lt hC 123 dX11_columnHolds_118 (by decide) o16.1 o16.2 o17.1 o17.2 (fun c18 => ?_) (fun c18 => ?_)
      · have hw := hwt c18
        exact r_subk (s_S_columnHolds_j0 hC hQ hX12 hX64 hw) ⟨rfl, rfl, rfl, rfl, rfl, rfl, trivial⟩
      · have hw := hwf c18
        refine r_iconst hC dX11_columnHolds_121 ?_
        exact hQ _ _ _ _ dX11_columnHolds_122 (by decide) (by decide) hw
def w_S_columnHolds_L1 (Q : Int → Mem → Prop) (X12 : Int → Mem → Prop) (x1 : Int) (x2 : Int) (x3 : Int) (x4 : Int) (x5 : Int) (M : Mem) : Prop :=
  ∀ X : Int → Mem → Prop, (∀ (x5 : Int) (M : Mem), w_S_columnHolds_B1 Q X12 x1 x2 x3 x4 X x5 M → X x5 M) → X x5 M
set_option maxRecDepth 100000 in
set_option maxHeartbeats 4000000 in
theorem s_S_columnHolds_L1 {Q : Int → Mem → Prop} {X12 : Int → Mem → Prop} {x1 : Int} {x2 : Int} {x3 : Int} {x4 : Int} {x5 : Int} {M : Mem} (hC : rC p R s m args meth c cells slots D aC ad 6 cX11_columnHolds RX11 3 73 (some .boolean)) (hQ : ∀ (pc : Nat) (L : List (Nat × RV)) (z : Int) (M : Mem), decode cX11_columnHolds pc = .ok (.ireturn, 1) → 0 ≤ z → z ≤ 1 → Q z M → rG p l e R s m args below meth c cells slots Qs D aC ad 6 pc L [vI z] M) (hX12 : ∀ (x4 : Int) (M : Mem), X12 x4 M → rG p l e R s m args below meth c cells slots Qs D aC ad 6 12 [(0, vR 0), (1, vI x1), (2, vI x2), (3, vI x3), (4, vI x4)] [] M) (hw : w_S_columnHolds_L1 Q X12 x1 x2 x3 x4 x5 M) : rG p l e R s m args below meth c cells slots Qs D aC ad 6 64 [(0, vR 0), (1, vI x1), (2, vI x2), (3, vI x3), (4, vI x4), (5, vI x5)] [] M := by
  unfold w_S_columnHolds_L1 at hw
  exact hw (fun x5 M => rG p l e R s m args below meth c cells slots Qs D aC ad 6 64 [(0, vR 0), (1, vI x1), (2, vI x2), (3, vI x3), (4, vI x4), (5, vI x5)] [] M) (fun x5 M hb => s_S_columnHolds_B1 hC hQ hX12 (fun _ _ h => h) hb)
def w_S_columnHolds_B0 (Q : Int → Mem → Prop) (x1 : Int) (x2 : Int) (x3 : Int) (X12 : Int → Mem → Prop) (x4 : Int) (M : Mem) : Prop :=
  ∀ a1 : Int, a1 = M 3 3 → 0 ≤ a1 → a1 ≤ 6 → (-2147483648 ≤ x4 ∧ x4 ≤ 2147483647) ∧ ((a1 ≤ x4 → Q 1 M) ∧ (¬ (a1 ≤ x4) → w_Trial_begin M x1 (fun M8 => w_Works_sumOn M8 x1 0 x2 (fun a9 => w_Works_sumOn M8 x1 1 x2 (fun a10 => w_Trial_under M8 x4 a9 a10 (fun M12 => w_S_columnHolds_L1 Q X12 x1 x2 x3 x4 0 M12))))))
set_option maxRecDepth 100000 in
set_option maxHeartbeats 4000000 in
theorem s_S_columnHolds_B0 {Q : Int → Mem → Prop} {x1 : Int} {x2 : Int} {x3 : Int} {X12 : Int → Mem → Prop} {x4 : Int} {M : Mem} (hC : rC p R s m args meth c cells slots D aC ad 6 cX11_columnHolds RX11 3 73 (some .boolean)) (hQ : ∀ (pc : Nat) (L : List (Nat × RV)) (z : Int) (M : Mem), decode cX11_columnHolds pc = .ok (.ireturn, 1) → 0 ≤ z → z ≤ 1 → Q z M → rG p l e R s m args below meth c cells slots Qs D aC ad 6 pc L [vI z] M) (hX12 : ∀ (x4 : Int) (M : Mem), X12 x4 M → rG p l e R s m args below meth c cells slots Qs D aC ad 6 12 [(0, vR 0), (1, vI x1), (2, vI x2), (3, vI x3), (4, vI x4)] [] M) (hw : w_S_columnHolds_B0 Q x1 x2 x3 X12 x4 M) : rG p l e R s m args below meth c cells slots Qs D aC ad 6 12 [(0, vR 0), (1, vI x1), (2, vI x2), (3, vI x3), (4, vI x4)] [] M := by
  unfold w_S_columnHolds_B0 at hw
  refine r_iload hC dX11_columnHolds_12 rfl ?_
  refine r_aload_n hC dX11_columnHolds_14 rfl rfl ?_
  refine r_getR hC 2 rfl (by decide) kf11_25 rfl rfl dX11_columnHolds_15 ?_
  refine r_getI hC 3 rfl (by decide) kf11_137 rfl rfl dX11_columnHolds_18 (fun b2 b2' => ?_)
  replace hw := hw _ rfl b2 b2'
  obtain ⟨o3, hw⟩ := hw
  obtain ⟨hwt, hwf⟩ := hw
  refine r_icmp_ge hC 142 dX11_columnHolds_21 (by decide) o3.1 o3.2 (by omega) (by omega) (fun c5 => ?_) (fun c5 => ?_)
  · have hw := hwt c5
    refine r_iconst hC dX11_columnHolds_142 ?_
    exact hQ _ _ _ _ dX11_columnHolds_143 (by decide) (by decide) hw
  · have hw := hwf c5
    refine r_aload_n hC dX11_columnHolds_24 rfl rfl ?_
    refine r_getR hC 0 rfl (by decide) kf11_10 rfl rfl dX11_columnHolds_25 ?_
    refine r_iload_n hC dX11_columnHolds_28 rfl rfl ?_
    refine r_callV hC (d_Trial_begin hw) rfl kC8_begin km11_202 kI8_begin kS8_begin kN8 dd_8_begin ⟨Nat.le_of_ble_eq_true rfl, Nat.le_of_ble_eq_true rfl⟩ rfl (Nat.le_of_ble_eq_true rfl) dX11_columnHolds_29 (fun r M' hp => ?_)
    obtain ⟨rfl, hw⟩ := hp
    try dsimp only at hw
    refine r_aload_n hC dX11_columnHolds_32 rfl rfl ?_
    refine r_getR hC 0 rfl (by decide) kf11_10 rfl rfl dX11_columnHolds_33 ?_
    refine r_iload hC dX11_columnHolds_36 rfl ?_
    refine r_aload_n hC dX11_columnHolds_38 rfl rfl ?_
    refine r_getR hC 7 rfl (by decide) kf11_55 rfl rfl dX11_columnHolds_39 ?_
    refine r_iload_n hC dX11_columnHolds_42 rfl rfl ?_
    refine r_iconst hC dX11_columnHolds_43 ?_
    refine r_iload_n hC dX11_columnHolds_44 rfl rfl ?_
    refine r_callV hC (d_Works_sumOn hw) rfl kC10_sumOn km11_422 kI10_sumOn kS10_sumOn kN10 dd_10_sumOn ⟨Nat.le_of_ble_eq_true rfl, Nat.le_of_ble_eq_true rfl⟩ rfl (Nat.le_of_ble_eq_true rfl) dX11_columnHolds_45 (fun r M' hp => ?_)
    obtain ⟨rfl, a9, rfl, hw⟩ := hp
    try dsimp only at hw
    refine r_aload_n hC dX11_columnHolds_48 rfl rfl ?_
    refine r_getR hC 7 rfl (by decide) kf11_55 rfl rfl dX11_columnHolds_49 ?_
    refine r_iload_n hC dX11_columnHolds_52 rfl rfl ?_
    refine r_iconst hC dX11_columnHolds_53 ?_
    refine r_iload_n hC dX11_columnHolds_54 rfl rfl ?_
    refine r_callV hC (d_Works_sumOn hw) rfl kC10_sumOn km11_422 kI10_sumOn kS10_sumOn kN10 dd_10_sumOn ⟨Nat.le_of_ble_eq_true rfl, Nat.le_of_ble_eq_true rfl⟩ rfl (Nat.le_of_ble_eq_true rfl) dX11_columnHolds_55 (fun r M' hp => ?_)
    obtain ⟨rfl, a10, rfl, hw⟩ := hp
    try dsimp only at hw
    refine r_callV hC (d_Trial_under hw) rfl kC8_under km11_249 kI8_under kS8_under kN8 dd_8_under ⟨Nat.le_of_ble_eq_true rfl, Nat.le_of_ble_eq_true rfl⟩ rfl (Nat.le_of_ble_eq_true rfl) dX11_columnHolds_58 (fun r M' hp => ?_)
    obtain ⟨rfl, hw⟩ := hp
    try dsimp only at hw
    refine r_iconst hC dX11_columnHolds_61 ?_
    refine r_istore hC dX11_columnHolds_62 (by decide) ?_
    exact r_subk (s_S_columnHolds_L1 hC hQ hX12 hw) ⟨rfl, rfl, rfl, rfl, rfl, rfl, trivial⟩
def w_S_columnHolds_L0 (Q : Int → Mem → Prop) (x1 : Int) (x2 : Int) (x3 : Int) (x4 : Int) (M : Mem) : Prop :=
  ∀ X : Int → Mem → Prop, (∀ (x4 : Int) (M : Mem), w_S_columnHolds_B0 Q x1 x2 x3 X x4 M → X x4 M) → X x4 M
set_option maxRecDepth 100000 in
set_option maxHeartbeats 4000000 in
theorem s_S_columnHolds_L0 {Q : Int → Mem → Prop} {x1 : Int} {x2 : Int} {x3 : Int} {x4 : Int} {M : Mem} (hC : rC p R s m args meth c cells slots D aC ad 6 cX11_columnHolds RX11 3 73 (some .boolean)) (hQ : ∀ (pc : Nat) (L : List (Nat × RV)) (z : Int) (M : Mem), decode cX11_columnHolds pc = .ok (.ireturn, 1) → 0 ≤ z → z ≤ 1 → Q z M → rG p l e R s m args below meth c cells slots Qs D aC ad 6 pc L [vI z] M) (hw : w_S_columnHolds_L0 Q x1 x2 x3 x4 M) : rG p l e R s m args below meth c cells slots Qs D aC ad 6 12 [(0, vR 0), (1, vI x1), (2, vI x2), (3, vI x3), (4, vI x4)] [] M := by
  unfold w_S_columnHolds_L0 at hw
  exact hw (fun x4 M => rG p l e R s m args below meth c cells slots Qs D aC ad 6 12 [(0, vR 0), (1, vI x1), (2, vI x2), (3, vI x3), (4, vI x4)] [] M) (fun x4 M hb => s_S_columnHolds_B0 hC hQ (fun _ _ h => h) hb)
def w_S_columnHolds (M : Mem) (x1 : Int) (x2 : Int) (Q : Int → Mem → Prop) : Prop :=
  w_Houses_widestOn M x1 (fun a1 => w_S_columnHolds_L0 Q x1 x2 a1 0 M)
set_option maxRecDepth 100000 in
set_option maxHeartbeats 4000000 in
theorem s_S_columnHolds {M : Mem} {x1 : Int} {x2 : Int} {Q : Int → Mem → Prop} (hC : rC p R s m args meth c cells slots D aC ad 6 cX11_columnHolds RX11 3 73 (some .boolean)) (hQ : ∀ (pc : Nat) (L : List (Nat × RV)) (z : Int) (M : Mem), decode cX11_columnHolds pc = .ok (.ireturn, 1) → 0 ≤ z → z ≤ 1 → Q z M → rG p l e R s m args below meth c cells slots Qs D aC ad 6 pc L [vI z] M) (hw : w_S_columnHolds M x1 x2 Q) : rG p l e R s m args below meth c cells slots Qs D aC ad 6 0 [(0, vR 0), (1, vI x1), (2, vI x2)] [] M := by
  unfold w_S_columnHolds at hw
  refine r_aload_n hC dX11_columnHolds_0 rfl rfl ?_
  refine r_getR hC 5 rfl (by decide) kf11_41 rfl rfl dX11_columnHolds_1 ?_
  refine r_iload_n hC dX11_columnHolds_4 rfl rfl ?_
  refine r_callV hC (d_Houses_widestOn hw) rfl kC1_widestOn km11_407 kI1_widestOn kS1_widestOn kN1 dd_1_widestOn ⟨Nat.le_of_ble_eq_true rfl, Nat.le_of_ble_eq_true rfl⟩ rfl (Nat.le_of_ble_eq_true rfl) dX11_columnHolds_5 (fun r M' hp => ?_)
  obtain ⟨rfl, a1, rfl, hw⟩ := hp
  try dsimp only at hw
  refine r_istore_n hC dX11_columnHolds_8 rfl (by decide) ?_
  refine r_iconst hC dX11_columnHolds_9 ?_
  refine r_istore hC dX11_columnHolds_10 (by decide) ?_
  exact r_subk (s_S_columnHolds_L0 hC hQ hw) ⟨rfl, rfl, rfl, rfl, rfl, trivial⟩
set_option maxRecDepth 100000 in
set_option maxHeartbeats 4000000 in
theorem d_S_columnHolds {l : Launch} {D : va_G} {aC : Nat → ClassId} {ad : Nat → Nat} {M : Mem} {x1 : Int} {x2 : Int} {Q : Int → Mem → Prop} (hw : w_S_columnHolds M x1 x2 Q) : Does l D aC ad yX11_columnHolds cX11_columnHolds 6 (some .boolean) 3 73 [vR 0, vI x1, vI x2] M (pI Q) :=
  Does.of (by decide) (Nat.le_of_ble_eq_true rfl) (fun p e R s m args below meth c hC => r_subk (s_S_columnHolds hC (fun pc L z M d z1 z2 h => r_zret hC d z1 z2 ⟨z, rfl, h⟩) hw) ⟨rfl, rfl, rfl, trivial⟩)
theorem dd_11_columnHolds : yX11_columnHolds.cls ≠ "java/lang/invoke/MethodHandle" ∧ yX11_columnHolds.cls ≠ "java/lang/invoke/VarHandle" ∧ (parseMethodDescriptor yX11_columnHolds.desc).map (fun d => d.parameters.length) = some 2 := by decide +kernel
/-- SoupSand.columnStands -/
def w_S_columnStands_j1 (Q : Int → Mem → Prop) (x3 : Int) (M : Mem) : Prop :=
  (0 ≤ x3 ∧ x3 < 384) ∧ (∀ a2 : Int, a2 = M 49 x3 → 0 ≤ a2 → a2 ≤ 2 → (¬ (a2 = 1) → Q 0 M) ∧ (a2 = 1 → Q 1 M))
set_option maxRecDepth 100000 in
set_option maxHeartbeats 4000000 in
theorem s_S_columnStands_j1 {Q : Int → Mem → Prop} {x3 : Int} {M : Mem} (hC : rC p R s m args meth c cells slots D aC ad 4 cX11_columnStands RX11 4 98 (some .boolean)) (hQ : ∀ (pc : Nat) (L : List (Nat × RV)) (z : Int) (M : Mem), decode cX11_columnStands pc = .ok (.ireturn, 1) → 0 ≤ z → z ≤ 1 → Q z M → rG p l e R s m args below meth c cells slots Qs D aC ad 4 pc L [vI z] M) (hw : w_S_columnStands_j1 Q x3 M) : rG p l e R s m args below meth c cells slots Qs D aC ad 4 42 [(0, vR 0), (3, vI x3)] [] M := by
  unfold w_S_columnStands_j1 at hw
  refine r_aload_n hC dX11_columnStands_42 rfl rfl ?_
  refine r_getR hC 7 rfl (by decide) kf11_55 rfl rfl dX11_columnStands_43 ?_
  refine r_getR hC 4 rfl (by decide) kf11_416 rfl rfl dX11_columnStands_46 ?_
  refine r_iload_n hC dX11_columnStands_49 rfl rfl ?_
  obtain ⟨o1, hw⟩ := hw
  refine r_iald hC rfl o1.1 o1.2 (by decide) (by decide) dX11_columnStands_50 (fun b3 b3' => ?_)
  replace hw := hw _ rfl b3 b3'
  refine r_iconst hC dX11_columnStands_51 ?_
  obtain ⟨hwt, hwf⟩ := hw
  refine r_icmp_ne hC 59 dX11_columnStands_52 (by decide) (by omega) (by omega) (by decide) (by decide) (fun c6 => ?_) (fun c6 => ?_)
  · have hw := hwt c6
    refine r_iconst hC dX11_columnStands_59 ?_
    exact hQ _ _ _ _ dX11_columnStands_60 (by decide) (by decide) hw
  · have hw := hwf c6
    refine r_iconst hC dX11_columnStands_55 ?_
    refine r_goto hC 60 dX11_columnStands_56 (by decide) ?_
    exact hQ _ _ _ _ dX11_columnStands_60 (by decide) (by decide) hw
def w_S_columnStands_j0 (Q : Int → Mem → Prop) (x3 : Int) (s1 : Int) (s2 : Int) (M : Mem) : Prop :=
  ((0 ≤ s1 ∧ s1 < 384) ∧ (0 ≤ s2 ∧ s2 ≤ 2)) ∧ (∀ M2 : Mem, M2 = mset M 49 s1 s2 → w_S_columnStands_j1 Q x3 M2)
set_option maxRecDepth 100000 in
set_option maxHeartbeats 4000000 in
theorem s_S_columnStands_j0 {Q : Int → Mem → Prop} {x3 : Int} {s1 : Int} {s2 : Int} {M : Mem} (hC : rC p R s m args meth c cells slots D aC ad 4 cX11_columnStands RX11 4 98 (some .boolean)) (hQ : ∀ (pc : Nat) (L : List (Nat × RV)) (z : Int) (M : Mem), decode cX11_columnStands pc = .ok (.ireturn, 1) → 0 ≤ z → z ≤ 1 → Q z M → rG p l e R s m args below meth c cells slots Qs D aC ad 4 pc L [vI z] M) (hw : w_S_columnStands_j0 Q x3 s1 s2 M) : rG p l e R s m args below meth c cells slots Qs D aC ad 4 41 [(0, vR 0), (3, vI x3)] [vI s2, vI s1, vR 49] M := by
  unfold w_S_columnStands_j0 at hw
  obtain ⟨o1, hw⟩ := hw
  refine r_iast hC rfl o1.1.1 o1.1.2 (by decide) (by decide) o1.2.1 o1.2.2 dX11_columnStands_41 ?_
  replace hw := hw _ rfl
  exact r_subk (s_S_columnStands_j1 hC hQ hw) ⟨rfl, rfl, trivial⟩
def w_S_columnStands (M : Mem) (x1 : Int) (x2 : Int) (Q : Int → Mem → Prop) : Prop :=
  (0 ≤ (x1 * 64) + x2 ∧ (x1 * 64) + x2 < 384) ∧ (∀ a2 : Int, a2 = M 49 ((x1 * 64) + x2) → 0 ≤ a2 → a2 ≤ 2 → (¬ (a2 = 0) → w_S_columnStands_j1 Q ((x1 * 64) + x2) M) ∧ (a2 = 0 → w_S_columnHolds M x1 x2 (fun a7 M8 => (-2147483648 ≤ a7 ∧ a7 ≤ 2147483647) ∧ ((a7 = 0 → w_S_columnStands_j0 Q ((x1 * 64) + x2) ((x1 * 64) + x2) 2 M8) ∧ (¬ (a7 = 0) → w_S_columnStands_j0 Q ((x1 * 64) + x2) ((x1 * 64) + x2) 1 M8)))))
set_option maxRecDepth 100000 in
set_option maxHeartbeats 4000000 in
theorem s_S_columnStands {M : Mem} {x1 : Int} {x2 : Int} {Q : Int → Mem → Prop} (hC : rC p R s m args meth c cells slots D aC ad 4 cX11_columnStands RX11 4 98 (some .boolean)) (hQ : ∀ (pc : Nat) (L : List (Nat × RV)) (z : Int) (M : Mem), decode cX11_columnStands pc = .ok (.ireturn, 1) → 0 ≤ z → z ≤ 1 → Q z M → rG p l e R s m args below meth c cells slots Qs D aC ad 4 pc L [vI z] M) (hw : w_S_columnStands M x1 x2 Q) : rG p l e R s m args below meth c cells slots Qs D aC ad 4 0 [(0, vR 0), (1, vI x1), (2, vI x2)] [] M := by
  unfold w_S_columnStands at hw
  refine r_iload_n hC dX11_columnStands_0 rfl rfl ?_
  refine r_bipush hC dX11_columnStands_1 (by decide) ?_
  refine r_imul hC dX11_columnStands_3 ?_
  refine r_iload_n hC dX11_columnStands_4 rfl rfl ?_
  refine r_iadd hC dX11_columnStands_5 ?_
  refine r_istore_n hC dX11_columnStands_6 rfl (by decide) ?_
  refine r_aload_n hC dX11_columnStands_7 rfl rfl ?_
  refine r_getR hC 7 rfl (by decide) kf11_55 rfl rfl dX11_columnStands_8 ?_
  refine r_getR hC 4 rfl (by decide) kf11_416 rfl rfl dX11_columnStands_11 ?_
  refine r_iload_n hC dX11_columnStands_14 rfl rfl ?_
  obtain ⟨o1, hw⟩ := hw
  refine r_iald hC rfl o1.1 o1.2 (by decide) (by decide) dX11_columnStands_15 (fun b3 b3' => ?_)
  replace hw := hw _ rfl b3 b3'
  obtain ⟨hwt, hwf⟩ := hw
  refine r_if_ne hC 42 dX11_columnStands_16 (by decide) (by omega) (by omega) (fun c6 => ?_) (fun c6 => ?_)
  · have hw := hwt c6
    exact r_subk (s_S_columnStands_j1 hC hQ hw) ⟨rfl, rfl, trivial⟩
  · have hw := hwf c6
    refine r_aload_n hC dX11_columnStands_19 rfl rfl ?_
    refine r_getR hC 7 rfl (by decide) kf11_55 rfl rfl dX11_columnStands_20 ?_
    refine r_getR hC 4 rfl (by decide) kf11_416 rfl rfl dX11_columnStands_23 ?_
    refine r_iload_n hC dX11_columnStands_26 rfl rfl ?_
    refine r_aload_n hC dX11_columnStands_27 rfl rfl ?_
    refine r_iload_n hC dX11_columnStands_28 rfl rfl ?_
    refine r_iload_n hC dX11_columnStands_29 rfl rfl ?_
    refine r_callV hC (d_S_columnHolds hw) rfl kC11_columnHolds km11_419 kI11_columnHolds kS11_columnHolds kN11 dd_11_columnHolds ⟨Nat.le_of_ble_eq_true rfl, Nat.le_of_ble_eq_true rfl⟩ rfl (Nat.le_of_ble_eq_true rfl) dX11_columnStands_30 (fun r M' hp => ?_)
    obtain ⟨a7, rfl, hw⟩ := hp
    try dsimp only at hw
    obtain ⟨o9, hw⟩ := hw
    obtain ⟨hwt, hwf⟩ := hw
    refine r_if_eq hC 40 dX11_columnStands_33 (by decide) o9.1 o9.2 (fun c11 => ?_) (fun c11 => ?_)
    · have hw := hwt c11
      refine r_iconst hC dX11_columnStands_40 ?_
      exact r_subk (s_S_columnStands_j0 hC hQ hw) ⟨rfl, rfl, trivial⟩
    · have hw := hwf c11
      refine r_iconst hC dX11_columnStands_36 ?_
      refine r_goto hC 41 dX11_columnStands_37 (by decide) ?_
      exact r_subk (s_S_columnStands_j0 hC hQ hw) ⟨rfl, rfl, trivial⟩
set_option maxRecDepth 100000 in
set_option maxHeartbeats 4000000 in
theorem d_S_columnStands {l : Launch} {D : va_G} {aC : Nat → ClassId} {ad : Nat → Nat} {M : Mem} {x1 : Int} {x2 : Int} {Q : Int → Mem → Prop} (hw : w_S_columnStands M x1 x2 Q) : Does l D aC ad yX11_columnStands cX11_columnStands 4 (some .boolean) 4 98 [vR 0, vI x1, vI x2] M (pI Q) :=
  Does.of (by decide) (Nat.le_of_ble_eq_true rfl) (fun p e R s m args below meth c hC => r_subk (s_S_columnStands hC (fun pc L z M d z1 z2 h => r_zret hC d z1 z2 ⟨z, rfl, h⟩) hw) ⟨rfl, rfl, rfl, trivial⟩)
theorem dd_10_setOn : yX10_setOn.cls ≠ "java/lang/invoke/MethodHandle" ∧ yX10_setOn.cls ≠ "java/lang/invoke/VarHandle" ∧ (parseMethodDescriptor yX10_setOn.desc).map (fun d => d.parameters.length) = some 1 := by decide +kernel
theorem dd_11_columnStands : yX11_columnStands.cls ≠ "java/lang/invoke/MethodHandle" ∧ yX11_columnStands.cls ≠ "java/lang/invoke/VarHandle" ∧ (parseMethodDescriptor yX11_columnStands.desc).map (fun d => d.parameters.length) = some 2 := by decide +kernel
/-- SoupSand.allStand -/
def w_S_allStand_B0 (Q : Int → Mem → Prop) (x1 : Int) (X2 : Int → Mem → Prop) (x2 : Int) (M : Mem) : Prop :=
  (-2147483648 ≤ x2 ∧ x2 ≤ 2147483647) ∧ ((6 ≤ x2 → Q 1 M) ∧ (¬ (6 ≤ x2) → w_Houses_widestOn M x2 (fun a5 => (-2147483648 ≤ a5 ∧ a5 ≤ 2147483647) ∧ ((a5 ≤ 0 → X2 (x2 + 1) M) ∧ (¬ (a5 ≤ 0) → w_Works_setOn M x2 (fun a9 => w_S_columnStands M x2 (bAnd x1 a9) (fun a10 M11 => (-2147483648 ≤ a10 ∧ a10 ≤ 2147483647) ∧ ((¬ (a10 = 0) → X2 (x2 + 1) M11) ∧ (a10 = 0 → Q 0 M11)))))))))
set_option maxRecDepth 100000 in
set_option maxHeartbeats 4000000 in
theorem s_S_allStand_B0 {Q : Int → Mem → Prop} {x1 : Int} {X2 : Int → Mem → Prop} {x2 : Int} {M : Mem} (hC : rC p R s m args meth c cells slots D aC ad 3 cX11_allStand RX11 5 121 (some .boolean)) (hQ : ∀ (pc : Nat) (L : List (Nat × RV)) (z : Int) (M : Mem), decode cX11_allStand pc = .ok (.ireturn, 1) → 0 ≤ z → z ≤ 1 → Q z M → rG p l e R s m args below meth c cells slots Qs D aC ad 3 pc L [vI z] M) (hX2 : ∀ (x2 : Int) (M : Mem), X2 x2 M → rG p l e R s m args below meth c cells slots Qs D aC ad 3 2 [(0, vR 0), (1, vI x1), (2, vI x2)] [] M) (hw : w_S_allStand_B0 Q x1 X2 x2 M) : rG p l e R s m args below meth c cells slots Qs D aC ad 3 2 [(0, vR 0), (1, vI x1), (2, vI x2)] [] M := by
  unfold w_S_allStand_B0 at hw
  refine r_iload_n hC dX11_allStand_2 rfl rfl ?_
  refine r_bipush hC dX11_allStand_3 (by decide) ?_
  obtain ⟨o1, hw⟩ := hw
  obtain ⟨hwt, hwf⟩ := hw
  refine r_icmp_ge hC 45 dX11_allStand_5 (by decide) o1.1 o1.2 (by decide) (by decide) (fun c3 => ?_) (fun c3 => ?_)
  · have hw := hwt c3
    refine r_iconst hC dX11_allStand_45 ?_
    exact hQ _ _ _ _ dX11_allStand_46 (by decide) (by decide) hw
  · have hw := hwf c3
    refine r_aload_n hC dX11_allStand_8 rfl rfl ?_
    refine r_getR hC 5 rfl (by decide) kf11_41 rfl rfl dX11_allStand_9 ?_
    refine r_iload_n hC dX11_allStand_12 rfl rfl ?_
    refine r_callV hC (d_Houses_widestOn hw) rfl kC1_widestOn km11_407 kI1_widestOn kS1_widestOn kN1 dd_1_widestOn ⟨Nat.le_of_ble_eq_true rfl, Nat.le_of_ble_eq_true rfl⟩ rfl (Nat.le_of_ble_eq_true rfl) dX11_allStand_13 (fun r M' hp => ?_)
    obtain ⟨rfl, a5, rfl, hw⟩ := hp
    try dsimp only at hw
    obtain ⟨o6, hw⟩ := hw
    obtain ⟨hwt, hwf⟩ := hw
    refine r_if_le hC 39 dX11_allStand_16 (by decide) o6.1 o6.2 (fun c8 => ?_) (fun c8 => ?_)
    · have hw := hwt c8
      refine r_iinc hC dX11_allStand_39 rfl (by decide) ?_
      refine r_goto hC 2 dX11_allStand_42 (by decide) ?_
      exact r_subk (hX2 _ _ hw) ⟨rfl, rfl, rfl, trivial⟩
    · have hw := hwf c8
      refine r_aload_n hC dX11_allStand_19 rfl rfl ?_
      refine r_iload_n hC dX11_allStand_20 rfl rfl ?_
      refine r_iload_n hC dX11_allStand_21 rfl rfl ?_
      refine r_aload_n hC dX11_allStand_22 rfl rfl ?_
      refine r_getR hC 7 rfl (by decide) kf11_55 rfl rfl dX11_allStand_23 ?_
      refine r_iload_n hC dX11_allStand_26 rfl rfl ?_
      refine r_callV hC (d_Works_setOn hw) rfl kC10_setOn km11_410 kI10_setOn kS10_setOn kN10 dd_10_setOn ⟨Nat.le_of_ble_eq_true rfl, Nat.le_of_ble_eq_true rfl⟩ rfl (Nat.le_of_ble_eq_true rfl) dX11_allStand_27 (fun r M' hp => ?_)
      obtain ⟨rfl, a9, rfl, hw⟩ := hp
      try dsimp only at hw
      refine r_iand hC dX11_allStand_30 ?_
      refine r_callV hC (d_S_columnStands hw) rfl kC11_columnStands km11_413 kI11_columnStands kS11_columnStands kN11 dd_11_columnStands ⟨Nat.le_of_ble_eq_true rfl, Nat.le_of_ble_eq_true rfl⟩ rfl (Nat.le_of_ble_eq_true rfl) dX11_allStand_31 (fun r M' hp => ?_)
      obtain ⟨a10, rfl, hw⟩ := hp
      try dsimp only at hw
      obtain ⟨o12, hw⟩ := hw
      obtain ⟨hwt, hwf⟩ := hw
      refine r_if_ne hC 39 dX11_allStand_34 (by decide) o12.1 o12.2 (fun c14 => ?_) (fun c14 => ?_)
      · have hw := hwt c14
        refine r_iinc hC dX11_allStand_39 rfl (by decide) ?_
        refine r_goto hC 2 dX11_allStand_42 (by decide) ?_
        exact r_subk (hX2 _ _ hw) ⟨rfl, rfl, rfl, trivial⟩
      · have hw := hwf c14
        refine r_iconst hC dX11_allStand_37 ?_
        exact hQ _ _ _ _ dX11_allStand_38 (by decide) (by decide) hw
def w_S_allStand_L0 (Q : Int → Mem → Prop) (x1 : Int) (x2 : Int) (M : Mem) : Prop :=
  ∀ X : Int → Mem → Prop, (∀ (x2 : Int) (M : Mem), w_S_allStand_B0 Q x1 X x2 M → X x2 M) → X x2 M
set_option maxRecDepth 100000 in
set_option maxHeartbeats 4000000 in
theorem s_S_allStand_L0 {Q : Int → Mem → Prop} {x1 : Int} {x2 : Int} {M : Mem} (hC : rC p R s m args meth c cells slots D aC ad 3 cX11_allStand RX11 5 121 (some .boolean)) (hQ : ∀ (pc : Nat) (L : List (Nat × RV)) (z : Int) (M : Mem), decode cX11_allStand pc = .ok (.ireturn, 1) → 0 ≤ z → z ≤ 1 → Q z M → rG p l e R s m args below meth c cells slots Qs D aC ad 3 pc L [vI z] M) (hw : w_S_allStand_L0 Q x1 x2 M) : rG p l e R s m args below meth c cells slots Qs D aC ad 3 2 [(0, vR 0), (1, vI x1), (2, vI x2)] [] M := by
  unfold w_S_allStand_L0 at hw
  exact hw (fun x2 M => rG p l e R s m args below meth c cells slots Qs D aC ad 3 2 [(0, vR 0), (1, vI x1), (2, vI x2)] [] M) (fun x2 M hb => s_S_allStand_B0 hC hQ (fun _ _ h => h) hb)
def w_S_allStand (M : Mem) (x1 : Int) (Q : Int → Mem → Prop) : Prop :=
  w_S_allStand_L0 Q x1 0 M
set_option maxRecDepth 100000 in
set_option maxHeartbeats 4000000 in
theorem s_S_allStand {M : Mem} {x1 : Int} {Q : Int → Mem → Prop} (hC : rC p R s m args meth c cells slots D aC ad 3 cX11_allStand RX11 5 121 (some .boolean)) (hQ : ∀ (pc : Nat) (L : List (Nat × RV)) (z : Int) (M : Mem), decode cX11_allStand pc = .ok (.ireturn, 1) → 0 ≤ z → z ≤ 1 → Q z M → rG p l e R s m args below meth c cells slots Qs D aC ad 3 pc L [vI z] M) (hw : w_S_allStand M x1 Q) : rG p l e R s m args below meth c cells slots Qs D aC ad 3 0 [(0, vR 0), (1, vI x1)] [] M := by
  unfold w_S_allStand at hw
  refine r_iconst hC dX11_allStand_0 ?_
  refine r_istore_n hC dX11_allStand_1 rfl (by decide) ?_
  exact r_subk (s_S_allStand_L0 hC hQ hw) ⟨rfl, rfl, rfl, trivial⟩
set_option maxRecDepth 100000 in
set_option maxHeartbeats 4000000 in
theorem d_S_allStand {l : Launch} {D : va_G} {aC : Nat → ClassId} {ad : Nat → Nat} {M : Mem} {x1 : Int} {Q : Int → Mem → Prop} (hw : w_S_allStand M x1 Q) : Does l D aC ad yX11_allStand cX11_allStand 3 (some .boolean) 5 121 [vR 0, vI x1] M (pI Q) :=
  Does.of (by decide) (Nat.le_of_ble_eq_true rfl) (fun p e R s m args below meth c hC => r_subk (s_S_allStand hC (fun pc L z M d z1 z2 h => r_zret hC d z1 z2 ⟨z, rfl, h⟩) hw) ⟨rfl, rfl, trivial⟩)
theorem dd_10_forgetVerdicts : yX10_forgetVerdicts.cls ≠ "java/lang/invoke/MethodHandle" ∧ yX10_forgetVerdicts.cls ≠ "java/lang/invoke/VarHandle" ∧ (parseMethodDescriptor yX10_forgetVerdicts.desc).map (fun d => d.parameters.length) = some 0 := by decide +kernel
theorem dd_11_allStand : yX11_allStand.cls ≠ "java/lang/invoke/MethodHandle" ∧ yX11_allStand.cls ≠ "java/lang/invoke/VarHandle" ∧ (parseMethodDescriptor yX11_allStand.desc).map (fun d => d.parameters.length) = some 1 := by decide +kernel
theorem dd_11_housesQuarrel : yX11_housesQuarrel.cls ≠ "java/lang/invoke/MethodHandle" ∧ yX11_housesQuarrel.cls ≠ "java/lang/invoke/VarHandle" ∧ (parseMethodDescriptor yX11_housesQuarrel.desc).map (fun d => d.parameters.length) = some 0 := by decide +kernel
/-- SoupSand.stands -/
def w_S_stands (M : Mem) (x1 : Int) (Q : Int → Mem → Prop) : Prop :=
  ∀ a1 : Int, a1 = M 8 5 → 0 ≤ a1 → a1 ≤ 6 → w_S_beyond M x1 0 ((bShl 1 a1) - 1) (fun a3 => (-2147483648 ≤ a3 ∧ a3 ≤ 2147483647) ∧ ((a3 = 0 → w_S_housesQuarrel M (fun a7 M8 => (-2147483648 ≤ a7 ∧ a7 ≤ 2147483647) ∧ ((a7 = 0 → w_Works_forgetVerdicts M8 (fun M13 => w_S_allStand M13 x1 (fun a14 M15 => (-2147483648 ≤ a14 ∧ a14 ≤ 2147483647) ∧ ((a14 = 0 → Q 0 M15) ∧ (¬ (a14 = 0) → Q 1 M15))))) ∧ (¬ (a7 = 0) → Q (-1005) M8)))) ∧ (¬ (a3 = 0) → Q (-1001) M)))
set_option maxRecDepth 100000 in
set_option maxHeartbeats 4000000 in
theorem s_S_stands {M : Mem} {x1 : Int} {Q : Int → Mem → Prop} (hC : rC p R s m args meth c cells slots D aC ad 2 cX11_stands RX11 6 143 (some .int)) (hQ : ∀ (pc : Nat) (L : List (Nat × RV)) (z : Int) (M : Mem), decode cX11_stands pc = .ok (.ireturn, 1) → Q z M → rG p l e R s m args below meth c cells slots Qs D aC ad 2 pc L [vI z] M) (hw : w_S_stands M x1 Q) : rG p l e R s m args below meth c cells slots Qs D aC ad 2 0 [(0, vR 0), (1, vI x1)] [] M := by
  unfold w_S_stands at hw
  refine r_iload_n hC dX11_stands_0 rfl rfl ?_
  refine r_iconst hC dX11_stands_1 ?_
  refine r_iconst hC dX11_stands_2 ?_
  refine r_aload_n hC dX11_stands_3 rfl rfl ?_
  refine r_getR hC 7 rfl (by decide) kf11_55 rfl rfl dX11_stands_4 ?_
  refine r_getI hC 5 rfl (by decide) kf11_171 rfl rfl dX11_stands_7 (fun b2 b2' => ?_)
  replace hw := hw _ rfl b2 b2'
  refine r_ishl hC dX11_stands_10 ?_
  refine r_iconst hC dX11_stands_11 ?_
  refine r_isub hC dX11_stands_12 ?_
  refine r_callS hC (d_S_beyond hw) kC11_beyond km11_86 kT11_beyond kN11 dd_11_beyond ⟨Nat.le_of_ble_eq_true rfl, Nat.le_of_ble_eq_true rfl⟩ rfl (Nat.le_of_ble_eq_true rfl) dX11_stands_13 (fun r M' hp => ?_)
  obtain ⟨rfl, a3, rfl, hw⟩ := hp
  try dsimp only at hw
  obtain ⟨o4, hw⟩ := hw
  obtain ⟨hwt, hwf⟩ := hw
  refine r_if_eq hC 23 dX11_stands_16 (by decide) o4.1 o4.2 (fun c6 => ?_) (fun c6 => ?_)
  · have hw := hwt c6
    refine r_aload_n hC dX11_stands_23 rfl rfl ?_
    refine r_callV hC (d_S_housesQuarrel hw) rfl kC11_housesQuarrel km11_383 kI11_housesQuarrel kS11_housesQuarrel kN11 dd_11_housesQuarrel ⟨Nat.le_of_ble_eq_true rfl, Nat.le_of_ble_eq_true rfl⟩ rfl (Nat.le_of_ble_eq_true rfl) dX11_stands_24 (fun r M' hp => ?_)
    obtain ⟨a7, rfl, hw⟩ := hp
    try dsimp only at hw
    obtain ⟨o9, hw⟩ := hw
    obtain ⟨hwt, hwf⟩ := hw
    refine r_if_eq hC 34 dX11_stands_27 (by decide) o9.1 o9.2 (fun c11 => ?_) (fun c11 => ?_)
    · have hw := hwt c11
      refine r_aload_n hC dX11_stands_34 rfl rfl ?_
      refine r_getR hC 7 rfl (by decide) kf11_55 rfl rfl dX11_stands_35 ?_
      refine r_callV hC (d_Works_forgetVerdicts hw) rfl kC10_forgetVerdicts km11_387 kI10_forgetVerdicts kS10_forgetVerdicts kN10 dd_10_forgetVerdicts ⟨Nat.le_of_ble_eq_true rfl, Nat.le_of_ble_eq_true rfl⟩ rfl (Nat.le_of_ble_eq_true rfl) dX11_stands_38 (fun r M' hp => ?_)
      obtain ⟨rfl, hw⟩ := hp
      try dsimp only at hw
      refine r_aload_n hC dX11_stands_41 rfl rfl ?_
      refine r_iload_n hC dX11_stands_42 rfl rfl ?_
      refine r_callV hC (d_S_allStand hw) rfl kC11_allStand km11_390 kI11_allStand kS11_allStand kN11 dd_11_allStand ⟨Nat.le_of_ble_eq_true rfl, Nat.le_of_ble_eq_true rfl⟩ rfl (Nat.le_of_ble_eq_true rfl) dX11_stands_43 (fun r M' hp => ?_)
      obtain ⟨a14, rfl, hw⟩ := hp
      try dsimp only at hw
      obtain ⟨o16, hw⟩ := hw
      obtain ⟨hwt, hwf⟩ := hw
      refine r_if_eq hC 53 dX11_stands_46 (by decide) o16.1 o16.2 (fun c18 => ?_) (fun c18 => ?_)
      · have hw := hwt c18
        refine r_iconst hC dX11_stands_53 ?_
        exact hQ _ _ _ _ dX11_stands_54 hw
      · have hw := hwf c18
        refine r_iconst hC dX11_stands_49 ?_
        refine r_goto hC 54 dX11_stands_50 (by decide) ?_
        exact hQ _ _ _ _ dX11_stands_54 hw
    · have hw := hwf c11
      refine r_sipush hC dX11_stands_30 (by decide) ?_
      exact hQ _ _ _ _ dX11_stands_33 hw
  · have hw := hwf c6
    refine r_sipush hC dX11_stands_19 (by decide) ?_
    exact hQ _ _ _ _ dX11_stands_22 hw
set_option maxRecDepth 100000 in
set_option maxHeartbeats 4000000 in
theorem d_S_stands {l : Launch} {D : va_G} {aC : Nat → ClassId} {ad : Nat → Nat} {M : Mem} {x1 : Int} {Q : Int → Mem → Prop} (hw : w_S_stands M x1 Q) : Does l D aC ad yX11_stands cX11_stands 2 (some .int) 6 143 [vR 0, vI x1] M (pI Q) :=
  Does.of (by decide) (Nat.le_of_ble_eq_true rfl) (fun p e R s m args below meth c hC => r_subk (s_S_stands hC (fun pc L z M d h => r_iret hC d ⟨z, rfl, h⟩) hw) ⟨rfl, rfl, trivial⟩)
/-- SoupSand$Works.priceOf -/
def w_Works_priceOf_B0 (Q : Int → Prop) (x1 : Int) (M : Mem) (X4 : Int → Int → Prop) (x2 : Int) (x3 : Int) : Prop :=
  ∀ a1 : Int, a1 = M 8 5 → 0 ≤ a1 → a1 ≤ 6 → (-2147483648 ≤ x3 ∧ x3 ≤ 2147483647) ∧ ((a1 ≤ x3 → Q x2) ∧ (¬ (a1 ≤ x3) → w_Works_holds M x1 x3 (fun a6 => (-2147483648 ≤ a6 ∧ a6 ≤ 2147483647) ∧ ((a6 = 0 → X4 x2 (x3 + 1)) ∧ (¬ (a6 = 0) → (0 ≤ x3 ∧ x3 < 6) ∧ (∀ a11 : Int, a11 = M 48 x3 → 0 ≤ a11 → a11 ≤ 999 → X4 (x2 + a11) (x3 + 1)))))))
set_option maxRecDepth 100000 in
set_option maxHeartbeats 4000000 in
theorem s_Works_priceOf_B0 {Q : Int → Prop} {x1 : Int} {M : Mem} {X4 : Int → Int → Prop} {x2 : Int} {x3 : Int} (hC : rC p R s m args meth c cells slots D aC ad 4 cX10_priceOf RX10 1 21 (some .int)) (hQ : ∀ (pc : Nat) (L : List (Nat × RV)) (z : Int), decode cX10_priceOf pc = .ok (.ireturn, 1) → Q z → rG p l e R s m args below meth c cells slots Qs D aC ad 4 pc L [vI z] M) (hX4 : ∀ (x2 : Int) (x3 : Int), X4 x2 x3 → rG p l e R s m args below meth c cells slots Qs D aC ad 4 4 [(0, vR 8), (1, vI x1), (2, vI x2), (3, vI x3)] [] M) (hw : w_Works_priceOf_B0 Q x1 M X4 x2 x3) : rG p l e R s m args below meth c cells slots Qs D aC ad 4 4 [(0, vR 8), (1, vI x1), (2, vI x2), (3, vI x3)] [] M := by
  unfold w_Works_priceOf_B0 at hw
  refine r_iload_n hC dX10_priceOf_4 rfl rfl ?_
  refine r_aload_n hC dX10_priceOf_5 rfl rfl ?_
  refine r_getI hC 5 rfl (by decide) kf10_27 rfl rfl dX10_priceOf_6 (fun b2 b2' => ?_)
  replace hw := hw _ rfl b2 b2'
  obtain ⟨o3, hw⟩ := hw
  obtain ⟨hwt, hwf⟩ := hw
  refine r_icmp_ge hC 35 dX10_priceOf_9 (by decide) o3.1 o3.2 (by omega) (by omega) (fun c5 => ?_) (fun c5 => ?_)
  · have hw := hwt c5
    refine r_iload_n hC dX10_priceOf_35 rfl rfl ?_
    exact hQ _ _ _ dX10_priceOf_36 hw
  · have hw := hwf c5
    refine r_iload_n hC dX10_priceOf_12 rfl rfl ?_
    refine r_iload_n hC dX10_priceOf_13 rfl rfl ?_
    refine r_callS hC (d_Works_holds hw) kC10_holds km10_31 kT10_holds kN10 dd_10_holds ⟨Nat.le_of_ble_eq_true rfl, Nat.le_of_ble_eq_true rfl⟩ rfl (Nat.le_of_ble_eq_true rfl) dX10_priceOf_14 (fun r M' hp => ?_)
    obtain ⟨rfl, a6, rfl, hw⟩ := hp
    try dsimp only at hw
    obtain ⟨o7, hw⟩ := hw
    obtain ⟨hwt, hwf⟩ := hw
    refine r_if_eq hC 29 dX10_priceOf_17 (by decide) o7.1 o7.2 (fun c9 => ?_) (fun c9 => ?_)
    · have hw := hwt c9
      refine r_iinc hC dX10_priceOf_29 rfl (by decide) ?_
      refine r_goto hC 4 dX10_priceOf_32 (by decide) ?_
      exact r_subk (hX4 _ _ hw) ⟨rfl, rfl, rfl, rfl, trivial⟩
    · have hw := hwf c9
      refine r_iload_n hC dX10_priceOf_20 rfl rfl ?_
      refine r_aload_n hC dX10_priceOf_21 rfl rfl ?_
      refine r_getR hC 3 rfl (by decide) kf10_21 rfl rfl dX10_priceOf_22 ?_
      refine r_iload_n hC dX10_priceOf_25 rfl rfl ?_
      obtain ⟨o10, hw⟩ := hw
      refine r_iald hC rfl o10.1 o10.2 (by decide) (by decide) dX10_priceOf_26 (fun b12 b12' => ?_)
      replace hw := hw _ rfl b12 b12'
      refine r_iadd hC dX10_priceOf_27 ?_
      refine r_istore_n hC dX10_priceOf_28 rfl (by decide) ?_
      refine r_iinc hC dX10_priceOf_29 rfl (by decide) ?_
      refine r_goto hC 4 dX10_priceOf_32 (by decide) ?_
      exact r_subk (hX4 _ _ hw) ⟨rfl, rfl, rfl, rfl, trivial⟩
def w_Works_priceOf_L0 (Q : Int → Prop) (x1 : Int) (M : Mem) (x2 : Int) (x3 : Int) : Prop :=
  ∀ X : Int → Int → Prop, (∀ (x2 : Int) (x3 : Int), w_Works_priceOf_B0 Q x1 M X x2 x3 → X x2 x3) → X x2 x3
set_option maxRecDepth 100000 in
set_option maxHeartbeats 4000000 in
theorem s_Works_priceOf_L0 {Q : Int → Prop} {x1 : Int} {M : Mem} {x2 : Int} {x3 : Int} (hC : rC p R s m args meth c cells slots D aC ad 4 cX10_priceOf RX10 1 21 (some .int)) (hQ : ∀ (pc : Nat) (L : List (Nat × RV)) (z : Int), decode cX10_priceOf pc = .ok (.ireturn, 1) → Q z → rG p l e R s m args below meth c cells slots Qs D aC ad 4 pc L [vI z] M) (hw : w_Works_priceOf_L0 Q x1 M x2 x3) : rG p l e R s m args below meth c cells slots Qs D aC ad 4 4 [(0, vR 8), (1, vI x1), (2, vI x2), (3, vI x3)] [] M := by
  unfold w_Works_priceOf_L0 at hw
  exact hw (fun x2 x3 => rG p l e R s m args below meth c cells slots Qs D aC ad 4 4 [(0, vR 8), (1, vI x1), (2, vI x2), (3, vI x3)] [] M) (fun x2 x3 hb => s_Works_priceOf_B0 hC hQ (fun _ _ h => h) hb)
def w_Works_priceOf (M : Mem) (x1 : Int) (Q : Int → Prop) : Prop :=
  w_Works_priceOf_L0 Q x1 M 0 0
set_option maxRecDepth 100000 in
set_option maxHeartbeats 4000000 in
theorem s_Works_priceOf {M : Mem} {x1 : Int} {Q : Int → Prop} (hC : rC p R s m args meth c cells slots D aC ad 4 cX10_priceOf RX10 1 21 (some .int)) (hQ : ∀ (pc : Nat) (L : List (Nat × RV)) (z : Int), decode cX10_priceOf pc = .ok (.ireturn, 1) → Q z → rG p l e R s m args below meth c cells slots Qs D aC ad 4 pc L [vI z] M) (hw : w_Works_priceOf M x1 Q) : rG p l e R s m args below meth c cells slots Qs D aC ad 4 0 [(0, vR 8), (1, vI x1)] [] M := by
  unfold w_Works_priceOf at hw
  refine r_iconst hC dX10_priceOf_0 ?_
  refine r_istore_n hC dX10_priceOf_1 rfl (by decide) ?_
  refine r_iconst hC dX10_priceOf_2 ?_
  refine r_istore_n hC dX10_priceOf_3 rfl (by decide) ?_
  exact r_subk (s_Works_priceOf_L0 hC hQ hw) ⟨rfl, rfl, rfl, rfl, trivial⟩
set_option maxRecDepth 100000 in
set_option maxHeartbeats 4000000 in
theorem d_Works_priceOf {l : Launch} {D : va_G} {aC : Nat → ClassId} {ad : Nat → Nat} {M : Mem} {x1 : Int} {Q : Int → Prop} (hw : w_Works_priceOf M x1 Q) : Does l D aC ad yX10_priceOf cX10_priceOf 4 (some .int) 1 21 [vR 8, vI x1] M (qI M Q) :=
  Does.of (by decide) (Nat.le_of_ble_eq_true rfl) (fun p e R s m args below meth c hC => r_subk (s_Works_priceOf hC (fun pc L z d h => r_iret hC d ⟨rfl, ⟨z, rfl, h⟩⟩) hw) ⟨rfl, rfl, trivial⟩)
end
