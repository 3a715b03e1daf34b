section
variable {p : Program} {l : Launch} {e : Env} {R : Room} {s : State} {m : MethodId} {args : Array Value} {below : List Frame} {meth : Method} {c : Code} {cells slots : Nat} {Qs : State → Prop} {D : va_G} {aC : Nat → ClassId} {ad : Nat → Nat}
theorem dd_12_sinkOf : yX12_sinkOf.cls ≠ "java/lang/invoke/MethodHandle" ∧ yX12_sinkOf.cls ≠ "java/lang/invoke/VarHandle" ∧ (parseMethodDescriptor yX12_sinkOf.desc).map (fun d => d.parameters.length) = some 1 := by decide +kernel
/-- SoupSandModel.goHouse -/
def w_m_goHouse_j0 (Q : Int → Mem → Prop) (X24 : Int → Mem → Prop) (x1 : Int) (x2 : Int) (x3 : Int) (x4 : Int) (s1 : Int) (M : Mem) : Prop :=
  w_m_tell M s1 (fun M2 => w_m_sinkOf M2 x1 (fun a3 => w_m_note M2 a3 (fun M5 => X24 (x4 + 1) M5)))
set_option maxRecDepth 100000 in
set_option maxHeartbeats 4000000 in
theorem s_m_goHouse_j0 {Q : Int → Mem → Prop} {X24 : Int → Mem → Prop} {x1 : Int} {x2 : Int} {x3 : Int} {x4 : Int} {s1 : Int} {M : Mem} (hC : rC p R s m args meth c cells slots D aC ad 5 cX12_goHouse RX12 8 189 (some .boolean)) (hQ : ∀ (pc : Nat) (L : List (Nat × RV)) (z : Int) (M : Mem), decode cX12_goHouse pc = .ok (.ireturn, 1) → 0 ≤ z → z ≤ 1 → Q z M → rG p l e R s m args below meth c cells slots Qs D aC ad 5 pc L [vI z] M) (hX24 : ∀ (x4 : Int) (M : Mem), X24 x4 M → rG p l e R s m args below meth c cells slots Qs D aC ad 5 24 [(0, vR 12), (1, vI x1), (2, vI x2), (3, vI x3), (4, vI x4)] [] M) (hw : w_m_goHouse_j0 Q X24 x1 x2 x3 x4 s1 M) : rG p l e R s m args below meth c cells slots Qs D aC ad 5 84 [(0, vR 12), (1, vI x1), (2, vI x2), (3, vI x3), (4, vI x4)] [vI s1, vR 12] M := by
  unfold w_m_goHouse_j0 at hw
  refine r_callV hC (d_m_tell hw) rfl kC12_tell km12_298 kI12_tell kS12_tell kN12 dd_12_tell ⟨Nat.le_of_ble_eq_true rfl, Nat.le_of_ble_eq_true rfl⟩ rfl (Nat.le_of_ble_eq_true rfl) dX12_goHouse_84 (fun r M' hp => ?_)
  obtain ⟨rfl, hw⟩ := hp
  try dsimp only at hw
  refine r_aload_n hC dX12_goHouse_87 rfl rfl ?_
  refine r_aload_n hC dX12_goHouse_88 rfl rfl ?_
  refine r_iload_n hC dX12_goHouse_89 rfl rfl ?_
  refine r_callV hC (d_m_sinkOf hw) rfl kC12_sinkOf km12_325 kI12_sinkOf kS12_sinkOf kN12 dd_12_sinkOf ⟨Nat.le_of_ble_eq_true rfl, Nat.le_of_ble_eq_true rfl⟩ rfl (Nat.le_of_ble_eq_true rfl) dX12_goHouse_90 (fun r M' hp => ?_)
  obtain ⟨rfl, a3, rfl, hw⟩ := hp
  try dsimp only at hw
  refine r_callV hC (d_m_note hw) rfl kC12_note km12_302 kI12_note kS12_note kN12 dd_12_note ⟨Nat.le_of_ble_eq_true rfl, Nat.le_of_ble_eq_true rfl⟩ rfl (Nat.le_of_ble_eq_true rfl) dX12_goHouse_93 (fun r M' hp => ?_)
  obtain ⟨rfl, hw⟩ := hp
  try dsimp only at hw
  refine r_iinc hC dX12_goHouse_96 rfl (by decide) ?_
  refine r_goto hC 24 dX12_goHouse_99 (by decide) ?_
  exact r_subk (hX24 _ _ hw) ⟨rfl, rfl, rfl, rfl, rfl, trivial⟩
def w_m_goHouse_B0 (Q : Int → Mem → Prop) (x1 : Int) (x2 : Int) (x3 : Int) (X24 : Int → Mem → Prop) (x4 : Int) (M : Mem) : Prop :=
  w_m_manyChoices M x3 (fun a1 => (-2147483648 ≤ x4 ∧ x4 ≤ 2147483647) ∧ ((-2147483648 ≤ a1 ∧ a1 ≤ 2147483647) ∧ ((a1 ≤ x4 → Q 1 M) ∧ (¬ (a1 ≤ x4) → (0 ≤ (729 * x3) + x4 ∧ (729 * x3) + x4 < 4374) ∧ (∀ a7 : Int, a7 = M 82 ((729 * x3) + x4) → 0 ≤ a7 → a7 ≤ 1 → (a7 = 0 → X24 (x4 + 1) M) ∧ (¬ (a7 = 0) → w_m_choose M x3 x4 (fun M13 => w_m_runOf M13 x3 x2 (fun M15 => w_m_sinkOf M15 x1 (fun a16 => ∀ a18 : Int, a18 = M15 64 23 → 0 ≤ a18 → a18 ≤ 999 → (-2147483648 ≤ a16 ∧ a16 ≤ 2147483647) ∧ ((a16 < a18 → w_m_goHouse_j0 Q X24 x1 x2 x3 x4 0 M15) ∧ (¬ (a16 < a18) → w_m_goHouse_j0 Q X24 x1 x2 x3 x4 1 M15)))))))))))
set_option maxRecDepth 100000 in
set_option maxHeartbeats 4000000 in
theorem s_m_goHouse_B0 {Q : Int → Mem → Prop} {x1 : Int} {x2 : Int} {x3 : Int} {X24 : Int → Mem → Prop} {x4 : Int} {M : Mem} (hC : rC p R s m args meth c cells slots D aC ad 5 cX12_goHouse RX12 8 189 (some .boolean)) (hQ : ∀ (pc : Nat) (L : List (Nat × RV)) (z : Int) (M : Mem), decode cX12_goHouse pc = .ok (.ireturn, 1) → 0 ≤ z → z ≤ 1 → Q z M → rG p l e R s m args below meth c cells slots Qs D aC ad 5 pc L [vI z] M) (hX24 : ∀ (x4 : Int) (M : Mem), X24 x4 M → rG p l e R s m args below meth c cells slots Qs D aC ad 5 24 [(0, vR 12), (1, vI x1), (2, vI x2), (3, vI x3), (4, vI x4)] [] M) (hw : w_m_goHouse_B0 Q x1 x2 x3 X24 x4 M) : rG p l e R s m args below meth c cells slots Qs D aC ad 5 24 [(0, vR 12), (1, vI x1), (2, vI x2), (3, vI x3), (4, vI x4)] [] M := by
  unfold w_m_goHouse_B0 at hw
  refine r_iload hC dX12_goHouse_24 rfl ?_
  refine r_aload_n hC dX12_goHouse_26 rfl rfl ?_
  refine r_iload_n hC dX12_goHouse_27 rfl rfl ?_
  refine r_callV hC (d_m_manyChoices hw) rfl kC12_manyChoices km12_266 kI12_manyChoices kS12_manyChoices kN12 dd_12_manyChoices ⟨Nat.le_of_ble_eq_true rfl, Nat.le_of_ble_eq_true rfl⟩ rfl (Nat.le_of_ble_eq_true rfl) dX12_goHouse_28 (fun r M' hp => ?_)
  obtain ⟨rfl, a1, rfl, hw⟩ := hp
  try dsimp only at hw
  obtain ⟨o2, hw⟩ := hw
  obtain ⟨o3, hw⟩ := hw
  obtain ⟨hwt, hwf⟩ := hw
  refine r_icmp_ge hC 102 dX12_goHouse_31 (by decide) o2.1 o2.2 o3.1 o3.2 (fun c4 => ?_) (fun c4 => ?_)
  · have hw := hwt c4
    refine r_iconst hC dX12_goHouse_102 ?_
    exact hQ _ _ _ _ dX12_goHouse_103 (by decide) (by decide) hw
  · have hw := hwf c4
    refine r_aload_n hC dX12_goHouse_34 rfl rfl ?_
    refine r_getR hC 34 rfl (by decide) kf12_98 rfl rfl dX12_goHouse_35 ?_
    refine r_sipush hC dX12_goHouse_38 (by decide) ?_
    refine r_iload_n hC dX12_goHouse_41 rfl rfl ?_
    refine r_imul hC dX12_goHouse_42 ?_
    refine r_iload hC dX12_goHouse_43 rfl ?_
    refine r_iadd hC dX12_goHouse_45 ?_
    obtain ⟨o6, hw⟩ := hw
    refine r_zald hC rfl o6.1 o6.2 (by decide) (by decide) dX12_goHouse_46 (fun b8 b8' => ?_)
    replace hw := hw _ rfl b8 b8'
    obtain ⟨hwt, hwf⟩ := hw
    refine r_if_eq hC 96 dX12_goHouse_47 (by decide) (by omega) (by omega) (fun c11 => ?_) (fun c11 => ?_)
    · have hw := hwt c11
      refine r_iinc hC dX12_goHouse_96 rfl (by decide) ?_
      refine r_goto hC 24 dX12_goHouse_99 (by decide) ?_
      exact r_subk (hX24 _ _ hw) ⟨rfl, rfl, rfl, rfl, rfl, trivial⟩
    · have hw := hwf c11
      refine r_aload_n hC dX12_goHouse_50 rfl rfl ?_
      refine r_iload_n hC dX12_goHouse_51 rfl rfl ?_
      refine r_iload hC dX12_goHouse_52 rfl ?_
      refine r_callV hC (d_m_choose hw) rfl kC12_choose km12_246 kI12_choose kS12_choose kN12 dd_12_choose ⟨Nat.le_of_ble_eq_true rfl, Nat.le_of_ble_eq_true rfl⟩ rfl (Nat.le_of_ble_eq_true rfl) dX12_goHouse_54 (fun r M' hp => ?_)
      obtain ⟨rfl, hw⟩ := hp
      try dsimp only at hw
      refine r_aload_n hC dX12_goHouse_57 rfl rfl ?_
      refine r_iload_n hC dX12_goHouse_58 rfl rfl ?_
      refine r_iload_n hC dX12_goHouse_59 rfl rfl ?_
      refine r_callV hC (d_m_runOf hw) rfl kC12_runOf km12_249 kI12_runOf kS12_runOf kN12 dd_12_runOf ⟨Nat.le_of_ble_eq_true rfl, Nat.le_of_ble_eq_true rfl⟩ rfl (Nat.le_of_ble_eq_true rfl) dX12_goHouse_60 (fun r M' hp => ?_)
      obtain ⟨rfl, hw⟩ := hp
      try dsimp only at hw
      refine r_aload_n hC dX12_goHouse_63 rfl rfl ?_
      refine r_aload_n hC dX12_goHouse_64 rfl rfl ?_
      refine r_iload_n hC dX12_goHouse_65 rfl rfl ?_
      refine r_callV hC (d_m_sinkOf hw) rfl kC12_sinkOf km12_325 kI12_sinkOf kS12_sinkOf kN12 dd_12_sinkOf ⟨Nat.le_of_ble_eq_true rfl, Nat.le_of_ble_eq_true rfl⟩ rfl (Nat.le_of_ble_eq_true rfl) dX12_goHouse_66 (fun r M' hp => ?_)
      obtain ⟨rfl, a16, rfl, hw⟩ := hp
      try dsimp only at hw
      refine r_aload_n hC dX12_goHouse_69 rfl rfl ?_
      refine r_getR hC 12 rfl (by decide) kf12_43 rfl rfl dX12_goHouse_70 ?_
      refine r_bipush hC dX12_goHouse_73 (by decide) ?_
      refine r_iald hC rfl (by decide) (by decide) (by decide) (by decide) dX12_goHouse_75 (fun b19 b19' => ?_)
      replace hw := hw _ rfl b19 b19'
      obtain ⟨o20, hw⟩ := hw
      obtain ⟨hwt, hwf⟩ := hw
      refine r_icmp_lt hC 83 dX12_goHouse_76 (by decide) o20.1 o20.2 (by omega) (by omega) (fun c22 => ?_) (fun c22 => ?_)
      · have hw := hwt c22
        refine r_iconst hC dX12_goHouse_83 ?_
        exact r_subk (s_m_goHouse_j0 hC hQ hX24 hw) ⟨rfl, rfl, rfl, rfl, rfl, trivial⟩
      · have hw := hwf c22
        refine r_iconst hC dX12_goHouse_79 ?_
        refine r_goto hC 84 dX12_goHouse_80 (by decide) ?_
        exact r_subk (s_m_goHouse_j0 hC hQ hX24 hw) ⟨rfl, rfl, rfl, rfl, rfl, trivial⟩
def w_m_goHouse_L0 (Q : Int → Mem → Prop) (x1 : Int) (x2 : Int) (x3 : Int) (x4 : Int) (M : Mem) : Prop :=
  ∀ X : Int → Mem → Prop, (∀ (x4 : Int) (M : Mem), w_m_goHouse_B0 Q x1 x2 x3 X x4 M → X x4 M) → X x4 M
set_option maxRecDepth 100000 in
set_option maxHeartbeats 4000000 in
theorem s_m_goHouse_L0 {Q : Int → Mem → Prop} {x1 : Int} {x2 : Int} {x3 : Int} {x4 : Int} {M : Mem} (hC : rC p R s m args meth c cells slots D aC ad 5 cX12_goHouse RX12 8 189 (some .boolean)) (hQ : ∀ (pc : Nat) (L : List (Nat × RV)) (z : Int) (M : Mem), decode cX12_goHouse pc = .ok (.ireturn, 1) → 0 ≤ z → z ≤ 1 → Q z M → rG p l e R s m args below meth c cells slots Qs D aC ad 5 pc L [vI z] M) (hw : w_m_goHouse_L0 Q x1 x2 x3 x4 M) : rG p l e R s m args below meth c cells slots Qs D aC ad 5 24 [(0, vR 12), (1, vI x1), (2, vI x2), (3, vI x3), (4, vI x4)] [] M := by
  unfold w_m_goHouse_L0 at hw
  exact hw (fun x4 M => rG p l e R s m args below meth c cells slots Qs D aC ad 5 24 [(0, vR 12), (1, vI x1), (2, vI x2), (3, vI x3), (4, vI x4)] [] M) (fun x4 M hb => s_m_goHouse_B0 hC hQ (fun _ _ h => h) hb)
def w_m_goHouse (M : Mem) (x1 : Int) (x2 : Int) (Q : Int → Mem → Prop) : Prop :=
  (0 ≤ x1 ∧ x1 < 8) ∧ (∀ a2 : Int, a2 = M 83 x1 → 0 ≤ a2 → a2 ≤ 5 → w_m_findKept M a2 (fun a4 M5 => (-2147483648 ≤ a4 ∧ a4 ≤ 2147483647) ∧ ((¬ (a4 = 0) → w_m_begin M5 (fun M10 => w_m_goHouse_L0 Q x1 x2 a2 0 M10)) ∧ (a4 = 0 → Q 0 M5))))
set_option maxRecDepth 100000 in
set_option maxHeartbeats 4000000 in
theorem s_m_goHouse {M : Mem} {x1 : Int} {x2 : Int} {Q : Int → Mem → Prop} (hC : rC p R s m args meth c cells slots D aC ad 5 cX12_goHouse RX12 8 189 (some .boolean)) (hQ : ∀ (pc : Nat) (L : List (Nat × RV)) (z : Int) (M : Mem), decode cX12_goHouse pc = .ok (.ireturn, 1) → 0 ≤ z → z ≤ 1 → Q z M → rG p l e R s m args below meth c cells slots Qs D aC ad 5 pc L [vI z] M) (hw : w_m_goHouse M x1 x2 Q) : rG p l e R s m args below meth c cells slots Qs D aC ad 5 0 [(0, vR 12), (1, vI x1), (2, vI x2)] [] M := by
  unfold w_m_goHouse at hw
  refine r_aload_n hC dX12_goHouse_0 rfl rfl ?_
  refine r_getR hC 40 rfl (by decide) kf12_101 rfl rfl dX12_goHouse_1 ?_
  refine r_iload_n hC dX12_goHouse_4 rfl rfl ?_
  obtain ⟨o1, hw⟩ := hw
  refine r_iald hC rfl o1.1 o1.2 (by decide) (by decide) dX12_goHouse_5 (fun b3 b3' => ?_)
  replace hw := hw _ rfl b3 b3'
  refine r_istore_n hC dX12_goHouse_6 rfl (by decide) ?_
  refine r_aload_n hC dX12_goHouse_7 rfl rfl ?_
  refine r_iload_n hC dX12_goHouse_8 rfl rfl ?_
  refine r_callV hC (d_m_findKept hw) rfl kC12_findKept km12_276 kI12_findKept kS12_findKept kN12 dd_12_findKept ⟨Nat.le_of_ble_eq_true rfl, Nat.le_of_ble_eq_true rfl⟩ rfl (Nat.le_of_ble_eq_true rfl) dX12_goHouse_9 (fun r M' hp => ?_)
  obtain ⟨a4, rfl, hw⟩ := hp
  try dsimp only at hw
  obtain ⟨o6, hw⟩ := hw
  obtain ⟨hwt, hwf⟩ := hw
  refine r_if_ne hC 17 dX12_goHouse_12 (by decide) o6.1 o6.2 (fun c8 => ?_) (fun c8 => ?_)
  · have hw := hwt c8
    refine r_aload_n hC dX12_goHouse_17 rfl rfl ?_
    refine r_callV hC (d_m_begin hw) rfl kC12_begin km12_295 kI12_begin kS12_begin kN12 dd_12_begin ⟨Nat.le_of_ble_eq_true rfl, Nat.le_of_ble_eq_true rfl⟩ rfl (Nat.le_of_ble_eq_true rfl) dX12_goHouse_18 (fun r M' hp => ?_)
    obtain ⟨rfl, hw⟩ := hp
    try dsimp only at hw
    refine r_iconst hC dX12_goHouse_21 ?_
    refine r_istore hC dX12_goHouse_22 (by decide) ?_
    exact r_subk (s_m_goHouse_L0 hC hQ hw) ⟨rfl, rfl, rfl, rfl, rfl, trivial⟩
  · have hw := hwf c8
    refine r_iconst hC dX12_goHouse_15 ?_
    exact hQ _ _ _ _ dX12_goHouse_16 (by decide) (by decide) hw
set_option maxRecDepth 100000 in
set_option maxHeartbeats 4000000 in
theorem d_m_goHouse {l : Launch} {D : va_G} {aC : Nat → ClassId} {ad : Nat → Nat} {M : Mem} {x1 : Int} {x2 : Int} {Q : Int → Mem → Prop} (hw : w_m_goHouse M x1 x2 Q) : Does l D aC ad yX12_goHouse cX12_goHouse 5 (some .boolean) 8 189 [vR 12, vI x1, vI x2] M (pI Q) :=
  Does.of (by decide) (Nat.le_of_ble_eq_true rfl) (fun p e R s m args below meth c hC => r_subk (s_m_goHouse hC (fun pc L z M d z1 z2 h => r_zret hC d z1 z2 ⟨z, rfl, h⟩) hw) ⟨rfl, rfl, rfl, trivial⟩)
/-- SoupSandModel.firstSink -/
def w_m_firstSink (M : Mem) (x1 : Int) (x2 : Int) (Q : Int → Mem → Prop) : Prop :=
  w_m_plain M (fun M2 => (0 ≤ x1 ∧ x1 < 8) ∧ (∀ a4 : Int, a4 = M2 83 x1 → 0 ≤ a4 → a4 ≤ 5 → w_m_choose M2 a4 0 (fun M7 => (0 ≤ x1 ∧ x1 < 8) ∧ (∀ a9 : Int, a9 = M7 83 x1 → 0 ≤ a9 → a9 ≤ 5 → w_m_runOf M7 a9 x2 (fun M12 => w_m_sinkOf M12 x1 (fun a13 => Q a13 M12))))))
set_option maxRecDepth 100000 in
set_option maxHeartbeats 4000000 in
theorem s_m_firstSink {M : Mem} {x1 : Int} {x2 : Int} {Q : Int → Mem → Prop} (hC : rC p R s m args meth c cells slots D aC ad 3 cX12_firstSink RX12 5 120 (some .int)) (hQ : ∀ (pc : Nat) (L : List (Nat × RV)) (z : Int) (M : Mem), decode cX12_firstSink pc = .ok (.ireturn, 1) → Q z M → rG p l e R s m args below meth c cells slots Qs D aC ad 3 pc L [vI z] M) (hw : w_m_firstSink M x1 x2 Q) : rG p l e R s m args below meth c cells slots Qs D aC ad 3 0 [(0, vR 12), (1, vI x1), (2, vI x2)] [] M := by
  unfold w_m_firstSink at hw
  refine r_aload_n hC dX12_firstSink_0 rfl rfl ?_
  refine r_callV hC (d_m_plain hw) rfl kC12_plain km12_243 kI12_plain kS12_plain kN12 dd_12_plain ⟨Nat.le_of_ble_eq_true rfl, Nat.le_of_ble_eq_true rfl⟩ rfl (Nat.le_of_ble_eq_true rfl) dX12_firstSink_1 (fun r M' hp => ?_)
  obtain ⟨rfl, hw⟩ := hp
  try dsimp only at hw
  refine r_aload_n hC dX12_firstSink_4 rfl rfl ?_
  refine r_aload_n hC dX12_firstSink_5 rfl rfl ?_
  refine r_getR hC 40 rfl (by decide) kf12_101 rfl rfl dX12_firstSink_6 ?_
  refine r_iload_n hC dX12_firstSink_9 rfl rfl ?_
  obtain ⟨o3, hw⟩ := hw
  refine r_iald hC rfl o3.1 o3.2 (by decide) (by decide) dX12_firstSink_10 (fun b5 b5' => ?_)
  replace hw := hw _ rfl b5 b5'
  refine r_iconst hC dX12_firstSink_11 ?_
  refine r_callV hC (d_m_choose hw) rfl kC12_choose km12_246 kI12_choose kS12_choose kN12 dd_12_choose ⟨Nat.le_of_ble_eq_true rfl, Nat.le_of_ble_eq_true rfl⟩ rfl (Nat.le_of_ble_eq_true rfl) dX12_firstSink_12 (fun r M' hp => ?_)
  obtain ⟨rfl, hw⟩ := hp
  try dsimp only at hw
  refine r_aload_n hC dX12_firstSink_15 rfl rfl ?_
  refine r_aload_n hC dX12_firstSink_16 rfl rfl ?_
  refine r_getR hC 40 rfl (by decide) kf12_101 rfl rfl dX12_firstSink_17 ?_
  refine r_iload_n hC dX12_firstSink_20 rfl rfl ?_
  obtain ⟨o8, hw⟩ := hw
  refine r_iald hC rfl o8.1 o8.2 (by decide) (by decide) dX12_firstSink_21 (fun b10 b10' => ?_)
  replace hw := hw _ rfl b10 b10'
  refine r_iload_n hC dX12_firstSink_22 rfl rfl ?_
  refine r_callV hC (d_m_runOf hw) rfl kC12_runOf km12_249 kI12_runOf kS12_runOf kN12 dd_12_runOf ⟨Nat.le_of_ble_eq_true rfl, Nat.le_of_ble_eq_true rfl⟩ rfl (Nat.le_of_ble_eq_true rfl) dX12_firstSink_23 (fun r M' hp => ?_)
  obtain ⟨rfl, hw⟩ := hp
  try dsimp only at hw
  refine r_aload_n hC dX12_firstSink_26 rfl rfl ?_
  refine r_iload_n hC dX12_firstSink_27 rfl rfl ?_
  refine r_callV hC (d_m_sinkOf hw) rfl kC12_sinkOf km12_325 kI12_sinkOf kS12_sinkOf kN12 dd_12_sinkOf ⟨Nat.le_of_ble_eq_true rfl, Nat.le_of_ble_eq_true rfl⟩ rfl (Nat.le_of_ble_eq_true rfl) dX12_firstSink_28 (fun r M' hp => ?_)
  obtain ⟨rfl, a13, rfl, hw⟩ := hp
  try dsimp only at hw
  exact hQ _ _ _ _ dX12_firstSink_31 hw
set_option maxRecDepth 100000 in
set_option maxHeartbeats 4000000 in
theorem d_m_firstSink {l : Launch} {D : va_G} {aC : Nat → ClassId} {ad : Nat → Nat} {M : Mem} {x1 : Int} {x2 : Int} {Q : Int → Mem → Prop} (hw : w_m_firstSink M x1 x2 Q) : Does l D aC ad yX12_firstSink cX12_firstSink 3 (some .int) 5 120 [vR 12, vI x1, vI x2] M (pI Q) :=
  Does.of (by decide) (Nat.le_of_ble_eq_true rfl) (fun p e R s m args below meth c hC => r_subk (s_m_firstSink hC (fun pc L z M d h => r_iret hC d ⟨z, rfl, h⟩) hw) ⟨rfl, rfl, rfl, trivial⟩)
theorem dd_12_firstSink : yX12_firstSink.cls ≠ "java/lang/invoke/MethodHandle" ∧ yX12_firstSink.cls ≠ "java/lang/invoke/VarHandle" ∧ (parseMethodDescriptor yX12_firstSink.desc).map (fun d => d.parameters.length) = some 2 := by decide +kernel
theorem dd_12_goHouse : yX12_goHouse.cls ≠ "java/lang/invoke/MethodHandle" ∧ yX12_goHouse.cls ≠ "java/lang/invoke/VarHandle" ∧ (parseMethodDescriptor yX12_goHouse.desc).map (fun d => d.parameters.length) = some 2 := by decide +kernel
theorem dd_12_isHouse : yX12_isHouse.cls ≠ "java/lang/invoke/MethodHandle" ∧ yX12_isHouse.cls ≠ "java/lang/invoke/VarHandle" ∧ (parseMethodDescriptor yX12_isHouse.desc).map (fun d => d.parameters.length) = some 1 := by decide +kernel
/-- SoupSandModel.sink -/
def w_m_sink (M : Mem) (x1 : Int) (x2 : Int) (x3 : Int) (Q : Int → Mem → Prop) : Prop :=
  w_m_isHouse M x1 (fun a1 => (-2147483648 ≤ a1 ∧ a1 ≤ 2147483647) ∧ ((a1 = 0 → Q (-1001) M) ∧ (¬ (a1 = 0) → w_m_isShake M x2 (fun a5 => (-2147483648 ≤ a5 ∧ a5 ≤ 2147483647) ∧ ((¬ (a5 = 0) → (-2147483648 ≤ x3 ∧ x3 ≤ 2147483647) ∧ (w_m_in M x3 0 2 (fun a10 => (-2147483648 ≤ a10 ∧ a10 ≤ 2147483647) ∧ ((¬ (a10 = 0) → (-2147483648 ≤ x3 ∧ x3 ≤ 2147483647) ∧ ((¬ (x3 = 2) → w_m_goHouse M x1 x2 (fun a17 M18 => (-2147483648 ≤ a17 ∧ a17 ≤ 2147483647) ∧ ((¬ (a17 = 0) → (-2147483648 ≤ x3 ∧ x3 ≤ 2147483647) ∧ ((¬ (x3 = 0) → ∀ a25 : Int, a25 = M18 12 38 → -2147483648 ≤ a25 → a25 ≤ 2147483647 → Q a25 M18) ∧ (x3 = 0 → ∀ a27 : Int, a27 = M18 12 37 → -2147483648 ≤ a27 → a27 ≤ 2147483647 → Q a27 M18))) ∧ (a17 = 0 → Q (-1005) M18)))) ∧ (x3 = 2 → w_m_firstSink M x1 x2 (fun a29 M30 => Q a29 M30)))) ∧ (a10 = 0 → Q (-1002) M))))) ∧ (a5 = 0 → Q (-1001) M))))))
set_option maxRecDepth 100000 in
set_option maxHeartbeats 4000000 in
theorem s_m_sink {M : Mem} {x1 : Int} {x2 : Int} {x3 : Int} {Q : Int → Mem → Prop} (hC : rC p R s m args meth c cells slots D aC ad 4 cX12_sink RX12 9 213 (some .int)) (hQ : ∀ (pc : Nat) (L : List (Nat × RV)) (z : Int) (M : Mem), decode cX12_sink pc = .ok (.ireturn, 1) → Q z M → rG p l e R s m args below meth c cells slots Qs D aC ad 4 pc L [vI z] M) (hw : w_m_sink M x1 x2 x3 Q) : rG p l e R s m args below meth c cells slots Qs D aC ad 4 0 [(0, vR 12), (1, vI x1), (2, vI x2), (3, vI x3)] [] M := by
  unfold w_m_sink at hw
  refine r_aload_n hC dX12_sink_0 rfl rfl ?_
  refine r_iload_n hC dX12_sink_1 rfl rfl ?_
  refine r_callV hC (d_m_isHouse hw) rfl kC12_isHouse km12_328 kI12_isHouse kS12_isHouse kN12 dd_12_isHouse ⟨Nat.le_of_ble_eq_true rfl, Nat.le_of_ble_eq_true rfl⟩ rfl (Nat.le_of_ble_eq_true rfl) dX12_sink_2 (fun r M' hp => ?_)
  obtain ⟨rfl, a1, rfl, hw⟩ := hp
  try dsimp only at hw
  obtain ⟨o2, hw⟩ := hw
  obtain ⟨hwt, hwf⟩ := hw
  refine r_if_eq hC 16 dX12_sink_5 (by decide) o2.1 o2.2 (fun c4 => ?_) (fun c4 => ?_)
  · have hw := hwt c4
    refine r_sipush hC dX12_sink_16 (by decide) ?_
    exact hQ _ _ _ _ dX12_sink_19 hw
  · have hw := hwf c4
    refine r_aload_n hC dX12_sink_8 rfl rfl ?_
    refine r_iload_n hC dX12_sink_9 rfl rfl ?_
    refine r_callV hC (d_m_isShake hw) rfl kC12_isShake km12_207 kI12_isShake kS12_isShake kN12 dd_12_isShake ⟨Nat.le_of_ble_eq_true rfl, Nat.le_of_ble_eq_true rfl⟩ rfl (Nat.le_of_ble_eq_true rfl) dX12_sink_10 (fun r M' hp => ?_)
    obtain ⟨rfl, a5, rfl, hw⟩ := hp
    try dsimp only at hw
    obtain ⟨o6, hw⟩ := hw
    obtain ⟨hwt, hwf⟩ := hw
    refine r_if_ne hC 20 dX12_sink_13 (by decide) o6.1 o6.2 (fun c8 => ?_) (fun c8 => ?_)
    · have hw := hwt c8
      refine r_iload_n hC dX12_sink_20 rfl rfl ?_
      obtain ⟨o9, hw⟩ := hw
      refine r_i2l hC dX12_sink_21 o9.1 o9.2 ?_
      refine r_lconst hC 0 dX12_sink_22 (by decide) ?_
      refine r_ldc2 hC (2) dX12_sink_23 kL12_252 (by decide) ?_
      refine r_callS hC (d_m_in hw) kC12_in km12_165 kT12_in kN12 dd_12_in ⟨Nat.le_of_ble_eq_true rfl, Nat.le_of_ble_eq_true rfl⟩ rfl (Nat.le_of_ble_eq_true rfl) dX12_sink_26 (fun r M' hp => ?_)
      obtain ⟨rfl, a10, rfl, hw⟩ := hp
      try dsimp only at hw
      obtain ⟨o11, hw⟩ := hw
      obtain ⟨hwt, hwf⟩ := hw
      refine r_if_ne hC 36 dX12_sink_29 (by decide) o11.1 o11.2 (fun c13 => ?_) (fun c13 => ?_)
      · have hw := hwt c13
        refine r_iload_n hC dX12_sink_36 rfl rfl ?_
        refine r_iconst hC dX12_sink_37 ?_
        obtain ⟨o14, hw⟩ := hw
        obtain ⟨hwt, hwf⟩ := hw
        refine r_icmp_ne hC 48 dX12_sink_38 (by decide) o14.1 o14.2 (by decide) (by decide) (fun c16 => ?_) (fun c16 => ?_)
        · have hw := hwt c16
          refine r_aload_n hC dX12_sink_48 rfl rfl ?_
          refine r_iload_n hC dX12_sink_49 rfl rfl ?_
          refine r_iload_n hC dX12_sink_50 rfl rfl ?_
          refine r_callV hC (d_m_goHouse hw) rfl kC12_goHouse km12_334 kI12_goHouse kS12_goHouse kN12 dd_12_goHouse ⟨Nat.le_of_ble_eq_true rfl, Nat.le_of_ble_eq_true rfl⟩ rfl (Nat.le_of_ble_eq_true rfl) dX12_sink_51 (fun r M' hp => ?_)
          obtain ⟨a17, rfl, hw⟩ := hp
          try dsimp only at hw
          obtain ⟨o19, hw⟩ := hw
          obtain ⟨hwt, hwf⟩ := hw
          refine r_if_ne hC 63 dX12_sink_54 (by decide) o19.1 o19.2 (fun c21 => ?_) (fun c21 => ?_)
          · have hw := hwt c21
            refine r_iload_n hC dX12_sink_63 rfl rfl ?_
            obtain ⟨o22, hw⟩ := hw
            obtain ⟨hwt, hwf⟩ := hw
            refine r_if_ne hC 74 dX12_sink_64 (by decide) o22.1 o22.2 (fun c24 => ?_) (fun c24 => ?_)
            · have hw := hwt c24
              refine r_aload_n hC dX12_sink_74 rfl rfl ?_
              refine r_getI hC 38 rfl (by decide) kf12_288 rfl rfl dX12_sink_75 (fun b26 b26' => ?_)
              replace hw := hw _ rfl b26 b26'
              exact hQ _ _ _ _ dX12_sink_78 hw
            · have hw := hwf c24
              refine r_aload_n hC dX12_sink_67 rfl rfl ?_
              refine r_getI hC 37 rfl (by decide) kf12_285 rfl rfl dX12_sink_68 (fun b28 b28' => ?_)
              replace hw := hw _ rfl b28 b28'
              refine r_goto hC 78 dX12_sink_71 (by decide) ?_
              exact hQ _ _ _ _ dX12_sink_78 hw
          · have hw := hwf c21
            refine r_sipush hC dX12_sink_57 (by decide) ?_
            refine r_goto hC 78 dX12_sink_60 (by decide) ?_
            exact hQ _ _ _ _ dX12_sink_78 hw
        · have hw := hwf c16
          refine r_aload_n hC dX12_sink_41 rfl rfl ?_
          refine r_iload_n hC dX12_sink_42 rfl rfl ?_
          refine r_iload_n hC dX12_sink_43 rfl rfl ?_
          refine r_callV hC (d_m_firstSink hw) rfl kC12_firstSink km12_331 kI12_firstSink kS12_firstSink kN12 dd_12_firstSink ⟨Nat.le_of_ble_eq_true rfl, Nat.le_of_ble_eq_true rfl⟩ rfl (Nat.le_of_ble_eq_true rfl) dX12_sink_44 (fun r M' hp => ?_)
          obtain ⟨a29, rfl, hw⟩ := hp
          try dsimp only at hw
          exact hQ _ _ _ _ dX12_sink_47 hw
      · have hw := hwf c13
        refine r_sipush hC dX12_sink_32 (by decide) ?_
        exact hQ _ _ _ _ dX12_sink_35 hw
    · have hw := hwf c8
      refine r_sipush hC dX12_sink_16 (by decide) ?_
      exact hQ _ _ _ _ dX12_sink_19 hw
set_option maxRecDepth 100000 in
set_option maxHeartbeats 4000000 in
theorem d_m_sink {l : Launch} {D : va_G} {aC : Nat → ClassId} {ad : Nat → Nat} {M : Mem} {x1 : Int} {x2 : Int} {x3 : Int} {Q : Int → Mem → Prop} (hw : w_m_sink M x1 x2 x3 Q) : Does l D aC ad yX12_sink cX12_sink 4 (some .int) 9 213 [vR 12, vI x1, vI x2, vI x3] M (pI Q) :=
  Does.of (by decide) (Nat.le_of_ble_eq_true rfl) (fun p e R s m args below meth c hC => r_subk (s_m_sink hC (fun pc L z M d h => r_iret hC d ⟨z, rfl, h⟩) hw) ⟨rfl, rfl, rfl, rfl, trivial⟩)
/-- SoupSandModel.sunk -/
def w_m_sunk (M : Mem) (x1 : Int) (x2 : Int) (x3 : Int) (Q : Int → Mem → Prop) : Prop :=
  w_m_isHouse M x1 (fun a1 => (-2147483648 ≤ a1 ∧ a1 ≤ 2147483647) ∧ ((a1 = 0 → Q (-1001) M) ∧ (¬ (a1 = 0) → w_m_isShake M x2 (fun a5 => (-2147483648 ≤ a5 ∧ a5 ≤ 2147483647) ∧ ((¬ (a5 = 0) → (-2147483648 ≤ x3 ∧ x3 ≤ 2147483647) ∧ (w_m_in M x3 0 1 (fun a10 => (-2147483648 ≤ a10 ∧ a10 ≤ 2147483647) ∧ ((¬ (a10 = 0) → w_m_goHouse M x1 x2 (fun a14 M15 => (-2147483648 ≤ a14 ∧ a14 ≤ 2147483647) ∧ ((a14 = 0 → Q (-1005) M15) ∧ (¬ (a14 = 0) → w_m_share M15 x3 (fun a19 => Q a19 M15))))) ∧ (a10 = 0 → Q (-1002) M))))) ∧ (a5 = 0 → Q (-1001) M))))))
set_option maxRecDepth 100000 in
set_option maxHeartbeats 4000000 in
theorem s_m_sunk {M : Mem} {x1 : Int} {x2 : Int} {x3 : Int} {Q : Int → Mem → Prop} (hC : rC p R s m args meth c cells slots D aC ad 4 cX12_sunk RX12 9 213 (some .long)) (hQ : ∀ (pc : Nat) (L : List (Nat × RV)) (z : Int) (M : Mem), decode cX12_sunk pc = .ok (.lreturn, 1) → Q z M → rG p l e R s m args below meth c cells slots Qs D aC ad 4 pc L [vJ z] M) (hw : w_m_sunk M x1 x2 x3 Q) : rG p l e R s m args below meth c cells slots Qs D aC ad 4 0 [(0, vR 12), (1, vI x1), (2, vI x2), (3, vI x3)] [] M := by
  unfold w_m_sunk at hw
  refine r_aload_n hC dX12_sunk_0 rfl rfl ?_
  refine r_iload_n hC dX12_sunk_1 rfl rfl ?_
  refine r_callV hC (d_m_isHouse hw) rfl kC12_isHouse km12_328 kI12_isHouse kS12_isHouse kN12 dd_12_isHouse ⟨Nat.le_of_ble_eq_true rfl, Nat.le_of_ble_eq_true rfl⟩ rfl (Nat.le_of_ble_eq_true rfl) dX12_sunk_2 (fun r M' hp => ?_)
  obtain ⟨rfl, a1, rfl, hw⟩ := hp
  try dsimp only at hw
  obtain ⟨o2, hw⟩ := hw
  obtain ⟨hwt, hwf⟩ := hw
  refine r_if_eq hC 16 dX12_sunk_5 (by decide) o2.1 o2.2 (fun c4 => ?_) (fun c4 => ?_)
  · have hw := hwt c4
    refine r_ldc2 hC (-1001) dX12_sunk_16 kL12_306 (by decide) ?_
    exact hQ _ _ _ _ dX12_sunk_19 hw
  · have hw := hwf c4
    refine r_aload_n hC dX12_sunk_8 rfl rfl ?_
    refine r_iload_n hC dX12_sunk_9 rfl rfl ?_
    refine r_callV hC (d_m_isShake hw) rfl kC12_isShake km12_207 kI12_isShake kS12_isShake kN12 dd_12_isShake ⟨Nat.le_of_ble_eq_true rfl, Nat.le_of_ble_eq_true rfl⟩ rfl (Nat.le_of_ble_eq_true rfl) dX12_sunk_10 (fun r M' hp => ?_)
    obtain ⟨rfl, a5, rfl, hw⟩ := hp
    try dsimp only at hw
    obtain ⟨o6, hw⟩ := hw
    obtain ⟨hwt, hwf⟩ := hw
    refine r_if_ne hC 20 dX12_sunk_13 (by decide) o6.1 o6.2 (fun c8 => ?_) (fun c8 => ?_)
    · have hw := hwt c8
      refine r_iload_n hC dX12_sunk_20 rfl rfl ?_
      obtain ⟨o9, hw⟩ := hw
      refine r_i2l hC dX12_sunk_21 o9.1 o9.2 ?_
      refine r_lconst hC 0 dX12_sunk_22 (by decide) ?_
      refine r_lconst hC 1 dX12_sunk_23 (by decide) ?_
      refine r_callS hC (d_m_in hw) kC12_in km12_165 kT12_in kN12 dd_12_in ⟨Nat.le_of_ble_eq_true rfl, Nat.le_of_ble_eq_true rfl⟩ rfl (Nat.le_of_ble_eq_true rfl) dX12_sunk_24 (fun r M' hp => ?_)
      obtain ⟨rfl, a10, rfl, hw⟩ := hp
      try dsimp only at hw
      obtain ⟨o11, hw⟩ := hw
      obtain ⟨hwt, hwf⟩ := hw
      refine r_if_ne hC 34 dX12_sunk_27 (by decide) o11.1 o11.2 (fun c13 => ?_) (fun c13 => ?_)
      · have hw := hwt c13
        refine r_aload_n hC dX12_sunk_34 rfl rfl ?_
        refine r_iload_n hC dX12_sunk_35 rfl rfl ?_
        refine r_iload_n hC dX12_sunk_36 rfl rfl ?_
        refine r_callV hC (d_m_goHouse hw) rfl kC12_goHouse km12_334 kI12_goHouse kS12_goHouse kN12 dd_12_goHouse ⟨Nat.le_of_ble_eq_true rfl, Nat.le_of_ble_eq_true rfl⟩ rfl (Nat.le_of_ble_eq_true rfl) dX12_sunk_37 (fun r M' hp => ?_)
        obtain ⟨a14, rfl, hw⟩ := hp
        try dsimp only at hw
        obtain ⟨o16, hw⟩ := hw
        obtain ⟨hwt, hwf⟩ := hw
        refine r_if_eq hC 51 dX12_sunk_40 (by decide) o16.1 o16.2 (fun c18 => ?_) (fun c18 => ?_)
        · have hw := hwt c18
          refine r_ldc2 hC (-1005) dX12_sunk_51 kL12_318 (by decide) ?_
          exact hQ _ _ _ _ dX12_sunk_54 hw
        · have hw := hwf c18
          refine r_aload_n hC dX12_sunk_43 rfl rfl ?_
          refine r_iload_n hC dX12_sunk_44 rfl rfl ?_
          refine r_callV hC (d_m_share hw) rfl kC12_share km12_314 kI12_share kS12_share kN12 dd_12_share ⟨Nat.le_of_ble_eq_true rfl, Nat.le_of_ble_eq_true rfl⟩ rfl (Nat.le_of_ble_eq_true rfl) dX12_sunk_45 (fun r M' hp => ?_)
          obtain ⟨rfl, a19, rfl, hw⟩ := hp
          try dsimp only at hw
          refine r_goto hC 54 dX12_sunk_48 (by decide) ?_
          exact hQ _ _ _ _ dX12_sunk_54 hw
      · have hw := hwf c13
        refine r_ldc2 hC (-1002) dX12_sunk_30 kL12_308 (by decide) ?_
        exact hQ _ _ _ _ dX12_sunk_33 hw
    · have hw := hwf c8
      refine r_ldc2 hC (-1001) dX12_sunk_16 kL12_306 (by decide) ?_
      exact hQ _ _ _ _ dX12_sunk_19 hw
set_option maxRecDepth 100000 in
set_option maxHeartbeats 4000000 in
theorem d_m_sunk {l : Launch} {D : va_G} {aC : Nat → ClassId} {ad : Nat → Nat} {M : Mem} {x1 : Int} {x2 : Int} {x3 : Int} {Q : Int → Mem → Prop} (hw : w_m_sunk M x1 x2 x3 Q) : Does l D aC ad yX12_sunk cX12_sunk 4 (some .long) 9 213 [vR 12, vI x1, vI x2, vI x3] M (pJ Q) :=
  Does.of (by decide) (Nat.le_of_ble_eq_true rfl) (fun p e R s m args below meth c hC => r_subk (s_m_sunk hC (fun pc L z M d h => r_lret hC d ⟨z, rfl, h⟩) hw) ⟨rfl, rfl, rfl, rfl, trivial⟩)
/-- SoupSandModel.led -/
def w_m_led_B0 (Q : Int → Mem → Prop) (x1 : Int) (x3 : Int) (M : Mem) (X60 : Int → Int → Prop) (x4 : Int) (x5 : Int) : Prop :=
  (0 ≤ x1 ∧ x1 < 8) ∧ (∀ a2 : Int, a2 = M 83 x1 → 0 ≤ a2 → a2 ≤ 5 → ∀ a5 : Int, a5 = M 55 a2 → 0 ≤ a5 → a5 ≤ 6 → (-2147483648 ≤ x5 ∧ x5 ≤ 2147483647) ∧ ((a5 ≤ x5 → (-2147483648 ≤ x3 ∧ x3 ≤ 2147483647) ∧ ((¬ (x3 = 0) → (0 ≤ x4 ∧ x4 < 6) ∧ (∀ a14 : Int, a14 = M 70 x4 → -1 ≤ a14 → a14 ≤ 59 → Q a14 M)) ∧ (x3 = 0 → Q x4 M))) ∧ (¬ (a5 ≤ x5) → w_m_part M x1 x5 (fun a16 => w_m_part M x1 x4 (fun a17 => (-2147483648 ≤ a16 ∧ a16 ≤ 2147483647) ∧ ((-2147483648 ≤ a17 ∧ a17 ≤ 2147483647) ∧ ((a16 ≤ a17 → X60 x4 (x5 + 1)) ∧ (¬ (a16 ≤ a17) → X60 x5 (x5 + 1)))))))))
set_option maxRecDepth 100000 in
set_option maxHeartbeats 4000000 in
theorem s_m_led_B0 {Q : Int → Mem → Prop} {x1 : Int} {x3 : Int} {M : Mem} {X60 : Int → Int → Prop} {x4 : Int} {x5 : Int} (hC : rC p R s m args meth c cells slots D aC ad 6 cX12_led RX12 6 142 (some .int)) (hQ : ∀ (pc : Nat) (L : List (Nat × RV)) (z : Int) (M : Mem), decode cX12_led pc = .ok (.ireturn, 1) → Q z M → rG p l e R s m args below meth c cells slots Qs D aC ad 6 pc L [vI z] M) (hX60 : ∀ (x4 : Int) (x5 : Int), X60 x4 x5 → rG p l e R s m args below meth c cells slots Qs D aC ad 6 60 [(0, vR 12), (1, vI x1), (3, vI x3), (4, vI x4), (5, vI x5)] [] M) (hw : w_m_led_B0 Q x1 x3 M X60 x4 x5) : rG p l e R s m args below meth c cells slots Qs D aC ad 6 60 [(0, vR 12), (1, vI x1), (3, vI x3), (4, vI x4), (5, vI x5)] [] M := by
  unfold w_m_led_B0 at hw
  refine r_iload hC dX12_led_60 rfl ?_
  refine r_aload_n hC dX12_led_62 rfl rfl ?_
  refine r_getR hC 2 rfl (by decide) kf12_16 rfl rfl dX12_led_63 ?_
  refine r_aload_n hC dX12_led_66 rfl rfl ?_
  refine r_getR hC 40 rfl (by decide) kf12_101 rfl rfl dX12_led_67 ?_
  refine r_iload_n hC dX12_led_70 rfl rfl ?_
  obtain ⟨o1, hw⟩ := hw
  refine r_iald hC rfl o1.1 o1.2 (by decide) (by decide) dX12_led_71 (fun b3 b3' => ?_)
  replace hw := hw _ rfl b3 b3'
  refine r_iald hC rfl (by omega) (by omega) (by decide) (by decide) dX12_led_72 (fun b6 b6' => ?_)
  replace hw := hw _ rfl b6 b6'
  obtain ⟨o7, hw⟩ := hw
  obtain ⟨hwt, hwf⟩ := hw
  refine r_icmp_ge hC 108 dX12_led_73 (by decide) o7.1 o7.2 (by omega) (by omega) (fun c9 => ?_) (fun c9 => ?_)
  · have hw := hwt c9
    refine r_iload_n hC dX12_led_108 rfl rfl ?_
    obtain ⟨o10, hw⟩ := hw
    obtain ⟨hwt, hwf⟩ := hw
    refine r_if_ne hC 117 dX12_led_109 (by decide) o10.1 o10.2 (fun c12 => ?_) (fun c12 => ?_)
    · have hw := hwt c12
      refine r_aload_n hC dX12_led_117 rfl rfl ?_
      refine r_getR hC 19 rfl (by decide) kf12_62 rfl rfl dX12_led_118 ?_
      refine r_iload hC dX12_led_121 rfl ?_
      obtain ⟨o13, hw⟩ := hw
      refine r_iald hC rfl o13.1 o13.2 (by decide) (by decide) dX12_led_123 (fun b15 b15' => ?_)
      replace hw := hw _ rfl b15 b15'
      exact hQ _ _ _ _ dX12_led_124 hw
    · have hw := hwf c12
      refine r_iload hC dX12_led_112 rfl ?_
      refine r_goto hC 124 dX12_led_114 (by decide) ?_
      exact hQ _ _ _ _ dX12_led_124 hw
  · have hw := hwf c9
    refine r_aload_n hC dX12_led_76 rfl rfl ?_
    refine r_iload_n hC dX12_led_77 rfl rfl ?_
    refine r_iload hC dX12_led_78 rfl ?_
    refine r_callV hC (d_m_part hw) rfl kC12_part km12_322 kI12_part kS12_part kN12 dd_12_part ⟨Nat.le_of_ble_eq_true rfl, Nat.le_of_ble_eq_true rfl⟩ rfl (Nat.le_of_ble_eq_true rfl) dX12_led_80 (fun r M' hp => ?_)
    obtain ⟨rfl, a16, rfl, hw⟩ := hp
    try dsimp only at hw
    refine r_aload_n hC dX12_led_83 rfl rfl ?_
    refine r_iload_n hC dX12_led_84 rfl rfl ?_
    refine r_iload hC dX12_led_85 rfl ?_
    refine r_callV hC (d_m_part hw) rfl kC12_part km12_322 kI12_part kS12_part kN12 dd_12_part ⟨Nat.le_of_ble_eq_true rfl, Nat.le_of_ble_eq_true rfl⟩ rfl (Nat.le_of_ble_eq_true rfl) dX12_led_87 (fun r M' hp => ?_)
    obtain ⟨rfl, a17, rfl, hw⟩ := hp
    try dsimp only at hw
    obtain ⟨o18, hw⟩ := hw
    obtain ⟨o19, hw⟩ := hw
    obtain ⟨hwt, hwf⟩ := hw
    refine r_icmp_le hC 98 dX12_led_90 (by decide) o18.1 o18.2 o19.1 o19.2 (fun c20 => ?_) (fun c20 => ?_)
    · have hw := hwt c20
      refine r_iload hC dX12_led_98 rfl ?_
      refine r_istore hC dX12_led_100 (by decide) ?_
      refine r_iinc hC dX12_led_102 rfl (by decide) ?_
      refine r_goto hC 60 dX12_led_105 (by decide) ?_
      exact r_subk (hX60 _ _ hw) ⟨rfl, rfl, rfl, rfl, rfl, trivial⟩
    · have hw := hwf c20
      refine r_iload hC dX12_led_93 rfl ?_
      refine r_goto hC 100 dX12_led_95 (by decide) ?_
      refine r_istore hC dX12_led_100 (by decide) ?_
      refine r_iinc hC dX12_led_102 rfl (by decide) ?_
      refine r_goto hC 60 dX12_led_105 (by decide) ?_
      exact r_subk (hX60 _ _ hw) ⟨rfl, rfl, rfl, rfl, rfl, trivial⟩
def w_m_led_L0 (Q : Int → Mem → Prop) (x1 : Int) (x3 : Int) (M : Mem) (x4 : Int) (x5 : Int) : Prop :=
  ∀ X : Int → Int → Prop, (∀ (x4 : Int) (x5 : Int), w_m_led_B0 Q x1 x3 M X x4 x5 → X x4 x5) → X x4 x5
set_option maxRecDepth 100000 in
set_option maxHeartbeats 4000000 in
theorem s_m_led_L0 {Q : Int → Mem → Prop} {x1 : Int} {x3 : Int} {M : Mem} {x4 : Int} {x5 : Int} (hC : rC p R s m args meth c cells slots D aC ad 6 cX12_led RX12 6 142 (some .int)) (hQ : ∀ (pc : Nat) (L : List (Nat × RV)) (z : Int) (M : Mem), decode cX12_led pc = .ok (.ireturn, 1) → Q z M → rG p l e R s m args below meth c cells slots Qs D aC ad 6 pc L [vI z] M) (hw : w_m_led_L0 Q x1 x3 M x4 x5) : rG p l e R s m args below meth c cells slots Qs D aC ad 6 60 [(0, vR 12), (1, vI x1), (3, vI x3), (4, vI x4), (5, vI x5)] [] M := by
  unfold w_m_led_L0 at hw
  exact hw (fun x4 x5 => rG p l e R s m args below meth c cells slots Qs D aC ad 6 60 [(0, vR 12), (1, vI x1), (3, vI x3), (4, vI x4), (5, vI x5)] [] M) (fun x4 x5 hb => s_m_led_B0 hC hQ (fun _ _ h => h) hb)
def w_m_led (M : Mem) (x1 : Int) (x2 : Int) (x3 : Int) (Q : Int → Mem → Prop) : Prop :=
  w_m_isHouse M x1 (fun a1 => (-2147483648 ≤ a1 ∧ a1 ≤ 2147483647) ∧ ((a1 = 0 → Q (-1001) M) ∧ (¬ (a1 = 0) → w_m_isShake M x2 (fun a5 => (-2147483648 ≤ a5 ∧ a5 ≤ 2147483647) ∧ ((¬ (a5 = 0) → (-2147483648 ≤ x3 ∧ x3 ≤ 2147483647) ∧ (w_m_in M x3 0 1 (fun a10 => (-2147483648 ≤ a10 ∧ a10 ≤ 2147483647) ∧ ((¬ (a10 = 0) → w_m_firstSink M x1 x2 (fun a14 M15 => ∀ a17 : Int, a17 = M15 64 23 → 0 ≤ a17 → a17 ≤ 999 → (-2147483648 ≤ a14 ∧ a14 ≤ 2147483647) ∧ ((a17 ≤ a14 → w_m_led_L0 Q x1 x3 M15 0 0) ∧ (¬ (a17 ≤ a14) → Q (-1003) M15)))) ∧ (a10 = 0 → Q (-1002) M))))) ∧ (a5 = 0 → Q (-1001) M))))))
set_option maxRecDepth 100000 in
set_option maxHeartbeats 4000000 in
theorem s_m_led {M : Mem} {x1 : Int} {x2 : Int} {x3 : Int} {Q : Int → Mem → Prop} (hC : rC p R s m args meth c cells slots D aC ad 6 cX12_led RX12 6 142 (some .int)) (hQ : ∀ (pc : Nat) (L : List (Nat × RV)) (z : Int) (M : Mem), decode cX12_led pc = .ok (.ireturn, 1) → Q z M → rG p l e R s m args below meth c cells slots Qs D aC ad 6 pc L [vI z] M) (hw : w_m_led M x1 x2 x3 Q) : rG p l e R s m args below meth c cells slots Qs D aC ad 6 0 [(0, vR 12), (1, vI x1), (2, vI x2), (3, vI x3)] [] M := by
  unfold w_m_led at hw
  refine r_aload_n hC dX12_led_0 rfl rfl ?_
  refine r_iload_n hC dX12_led_1 rfl rfl ?_
  refine r_callV hC (d_m_isHouse hw) rfl kC12_isHouse km12_328 kI12_isHouse kS12_isHouse kN12 dd_12_isHouse ⟨Nat.le_of_ble_eq_true rfl, Nat.le_of_ble_eq_true rfl⟩ rfl (Nat.le_of_ble_eq_true rfl) dX12_led_2 (fun r M' hp => ?_)
  obtain ⟨rfl, a1, rfl, hw⟩ := hp
  try dsimp only at hw
  obtain ⟨o2, hw⟩ := hw
  obtain ⟨hwt, hwf⟩ := hw
  refine r_if_eq hC 16 dX12_led_5 (by decide) o2.1 o2.2 (fun c4 => ?_) (fun c4 => ?_)
  · have hw := hwt c4
    refine r_sipush hC dX12_led_16 (by decide) ?_
    exact hQ _ _ _ _ dX12_led_19 hw
  · have hw := hwf c4
    refine r_aload_n hC dX12_led_8 rfl rfl ?_
    refine r_iload_n hC dX12_led_9 rfl rfl ?_
    refine r_callV hC (d_m_isShake hw) rfl kC12_isShake km12_207 kI12_isShake kS12_isShake kN12 dd_12_isShake ⟨Nat.le_of_ble_eq_true rfl, Nat.le_of_ble_eq_true rfl⟩ rfl (Nat.le_of_ble_eq_true rfl) dX12_led_10 (fun r M' hp => ?_)
    obtain ⟨rfl, a5, rfl, hw⟩ := hp
    try dsimp only at hw
    obtain ⟨o6, hw⟩ := hw
    obtain ⟨hwt, hwf⟩ := hw
    refine r_if_ne hC 20 dX12_led_13 (by decide) o6.1 o6.2 (fun c8 => ?_) (fun c8 => ?_)
    · have hw := hwt c8
      refine r_iload_n hC dX12_led_20 rfl rfl ?_
      obtain ⟨o9, hw⟩ := hw
      refine r_i2l hC dX12_led_21 o9.1 o9.2 ?_
      refine r_lconst hC 0 dX12_led_22 (by decide) ?_
      refine r_lconst hC 1 dX12_led_23 (by decide) ?_
      refine r_callS hC (d_m_in hw) kC12_in km12_165 kT12_in kN12 dd_12_in ⟨Nat.le_of_ble_eq_true rfl, Nat.le_of_ble_eq_true rfl⟩ rfl (Nat.le_of_ble_eq_true rfl) dX12_led_24 (fun r M' hp => ?_)
      obtain ⟨rfl, a10, rfl, hw⟩ := hp
      try dsimp only at hw
      obtain ⟨o11, hw⟩ := hw
      obtain ⟨hwt, hwf⟩ := hw
      refine r_if_ne hC 34 dX12_led_27 (by decide) o11.1 o11.2 (fun c13 => ?_) (fun c13 => ?_)
      · have hw := hwt c13
        refine r_aload_n hC dX12_led_34 rfl rfl ?_
        refine r_iload_n hC dX12_led_35 rfl rfl ?_
        refine r_iload_n hC dX12_led_36 rfl rfl ?_
        refine r_callV hC (d_m_firstSink hw) rfl kC12_firstSink km12_331 kI12_firstSink kS12_firstSink kN12 dd_12_firstSink ⟨Nat.le_of_ble_eq_true rfl, Nat.le_of_ble_eq_true rfl⟩ rfl (Nat.le_of_ble_eq_true rfl) dX12_led_37 (fun r M' hp => ?_)
        obtain ⟨a14, rfl, hw⟩ := hp
        try dsimp only at hw
        refine r_aload_n hC dX12_led_40 rfl rfl ?_
        refine r_getR hC 12 rfl (by decide) kf12_43 rfl rfl dX12_led_41 ?_
        refine r_bipush hC dX12_led_44 (by decide) ?_
        refine r_iald hC rfl (by decide) (by decide) (by decide) (by decide) dX12_led_46 (fun b18 b18' => ?_)
        replace hw := hw _ rfl b18 b18'
        obtain ⟨o19, hw⟩ := hw
        obtain ⟨hwt, hwf⟩ := hw
        refine r_icmp_ge hC 54 dX12_led_47 (by decide) o19.1 o19.2 (by omega) (by omega) (fun c21 => ?_) (fun c21 => ?_)
        · have hw := hwt c21
          refine r_iconst hC dX12_led_54 ?_
          refine r_istore hC dX12_led_55 (by decide) ?_
          refine r_iconst hC dX12_led_57 ?_
          refine r_istore hC dX12_led_58 (by decide) ?_
          exact r_subk (s_m_led_L0 hC hQ hw) ⟨rfl, rfl, rfl, rfl, rfl, trivial⟩
        · have hw := hwf c21
          refine r_sipush hC dX12_led_50 (by decide) ?_
          exact hQ _ _ _ _ dX12_led_53 hw
      · have hw := hwf c13
        refine r_sipush hC dX12_led_30 (by decide) ?_
        exact hQ _ _ _ _ dX12_led_33 hw
    · have hw := hwf c8
      refine r_sipush hC dX12_led_16 (by decide) ?_
      exact hQ _ _ _ _ dX12_led_19 hw
set_option maxRecDepth 100000 in
set_option maxHeartbeats 4000000 in
theorem d_m_led {l : Launch} {D : va_G} {aC : Nat → ClassId} {ad : Nat → Nat} {M : Mem} {x1 : Int} {x2 : Int} {x3 : Int} {Q : Int → Mem → Prop} (hw : w_m_led M x1 x2 x3 Q) : Does l D aC ad yX12_led cX12_led 6 (some .int) 6 142 [vR 12, vI x1, vI x2, vI x3] M (pI Q) :=
  Does.of (by decide) (Nat.le_of_ble_eq_true rfl) (fun p e R s m args below meth c hC => r_subk (s_m_led hC (fun pc L z M d h => r_iret hC d ⟨z, rfl, h⟩) hw) ⟨rfl, rfl, rfl, rfl, trivial⟩)
/-- SoupSandModel.lean -/
def w_m_lean (M : Mem) (x1 : Int) (x2 : Int) (x3 : Int) (Q : Int → Mem → Prop) : Prop :=
  w_m_isHouse M x1 (fun a1 => (-2147483648 ≤ a1 ∧ a1 ≤ 2147483647) ∧ ((a1 = 0 → Q (-1001) M) ∧ (¬ (a1 = 0) → w_m_isHouse M x2 (fun a5 => (-2147483648 ≤ a5 ∧ a5 ≤ 2147483647) ∧ ((a5 = 0 → Q (-1001) M) ∧ (¬ (a5 = 0) → w_m_isShake M x3 (fun a9 => (-2147483648 ≤ a9 ∧ a9 ≤ 2147483647) ∧ ((¬ (a9 = 0) → w_m_firstSink M x1 x3 (fun a13 M14 => w_m_firstSink M14 x2 x3 (fun a15 M16 => (-2147483648 ≤ a13 - a15 ∧ a13 - a15 ≤ 2147483647) ∧ ((0 ≤ a13 - a15 → Q (a13 - a15) M16) ∧ (¬ (0 ≤ a13 - a15) → Q (-(a13 - a15)) M16))))) ∧ (a9 = 0 → Q (-1001) M)))))))))
set_option maxRecDepth 100000 in
set_option maxHeartbeats 4000000 in
theorem s_m_lean {M : Mem} {x1 : Int} {x2 : Int} {x3 : Int} {Q : Int → Mem → Prop} (hC : rC p R s m args meth c cells slots D aC ad 5 cX12_lean RX12 6 142 (some .int)) (hQ : ∀ (pc : Nat) (L : List (Nat × RV)) (z : Int) (M : Mem), decode cX12_lean pc = .ok (.ireturn, 1) → Q z M → rG p l e R s m args below meth c cells slots Qs D aC ad 5 pc L [vI z] M) (hw : w_m_lean M x1 x2 x3 Q) : rG p l e R s m args below meth c cells slots Qs D aC ad 5 0 [(0, vR 12), (1, vI x1), (2, vI x2), (3, vI x3)] [] M := by
  unfold w_m_lean at hw
  refine r_aload_n hC dX12_lean_0 rfl rfl ?_
  refine r_iload_n hC dX12_lean_1 rfl rfl ?_
  refine r_callV hC (d_m_isHouse hw) rfl kC12_isHouse km12_328 kI12_isHouse kS12_isHouse kN12 dd_12_isHouse ⟨Nat.le_of_ble_eq_true rfl, Nat.le_of_ble_eq_true rfl⟩ rfl (Nat.le_of_ble_eq_true rfl) dX12_lean_2 (fun r M' hp => ?_)
  obtain ⟨rfl, a1, rfl, hw⟩ := hp
  try dsimp only at hw
  obtain ⟨o2, hw⟩ := hw
  obtain ⟨hwt, hwf⟩ := hw
  refine r_if_eq hC 24 dX12_lean_5 (by decide) o2.1 o2.2 (fun c4 => ?_) (fun c4 => ?_)
  · have hw := hwt c4
    refine r_sipush hC dX12_lean_24 (by decide) ?_
    exact hQ _ _ _ _ dX12_lean_27 hw
  · have hw := hwf c4
    refine r_aload_n hC dX12_lean_8 rfl rfl ?_
    refine r_iload_n hC dX12_lean_9 rfl rfl ?_
    refine r_callV hC (d_m_isHouse hw) rfl kC12_isHouse km12_328 kI12_isHouse kS12_isHouse kN12 dd_12_isHouse ⟨Nat.le_of_ble_eq_true rfl, Nat.le_of_ble_eq_true rfl⟩ rfl (Nat.le_of_ble_eq_true rfl) dX12_lean_10 (fun r M' hp => ?_)
    obtain ⟨rfl, a5, rfl, hw⟩ := hp
    try dsimp only at hw
    obtain ⟨o6, hw⟩ := hw
    obtain ⟨hwt, hwf⟩ := hw
    refine r_if_eq hC 24 dX12_lean_13 (by decide) o6.1 o6.2 (fun c8 => ?_) (fun c8 => ?_)
    · have hw := hwt c8
      refine r_sipush hC dX12_lean_24 (by decide) ?_
      exact hQ _ _ _ _ dX12_lean_27 hw
    · have hw := hwf c8
      refine r_aload_n hC dX12_lean_16 rfl rfl ?_
      refine r_iload_n hC dX12_lean_17 rfl rfl ?_
      refine r_callV hC (d_m_isShake hw) rfl kC12_isShake km12_207 kI12_isShake kS12_isShake kN12 dd_12_isShake ⟨Nat.le_of_ble_eq_true rfl, Nat.le_of_ble_eq_true rfl⟩ rfl (Nat.le_of_ble_eq_true rfl) dX12_lean_18 (fun r M' hp => ?_)
      obtain ⟨rfl, a9, rfl, hw⟩ := hp
      try dsimp only at hw
      obtain ⟨o10, hw⟩ := hw
      obtain ⟨hwt, hwf⟩ := hw
      refine r_if_ne hC 28 dX12_lean_21 (by decide) o10.1 o10.2 (fun c12 => ?_) (fun c12 => ?_)
      · have hw := hwt c12
        refine r_aload_n hC dX12_lean_28 rfl rfl ?_
        refine r_iload_n hC dX12_lean_29 rfl rfl ?_
        refine r_iload_n hC dX12_lean_30 rfl rfl ?_
        refine r_callV hC (d_m_firstSink hw) rfl kC12_firstSink km12_331 kI12_firstSink kS12_firstSink kN12 dd_12_firstSink ⟨Nat.le_of_ble_eq_true rfl, Nat.le_of_ble_eq_true rfl⟩ rfl (Nat.le_of_ble_eq_true rfl) dX12_lean_31 (fun r M' hp => ?_)
        obtain ⟨a13, rfl, hw⟩ := hp
        try dsimp only at hw
        refine r_aload_n hC dX12_lean_34 rfl rfl ?_
        refine r_iload_n hC dX12_lean_35 rfl rfl ?_
        refine r_iload_n hC dX12_lean_36 rfl rfl ?_
        refine r_callV hC (d_m_firstSink hw) rfl kC12_firstSink km12_331 kI12_firstSink kS12_firstSink kN12 dd_12_firstSink ⟨Nat.le_of_ble_eq_true rfl, Nat.le_of_ble_eq_true rfl⟩ rfl (Nat.le_of_ble_eq_true rfl) dX12_lean_37 (fun r M' hp => ?_)
        obtain ⟨a15, rfl, hw⟩ := hp
        try dsimp only at hw
        refine r_isub hC dX12_lean_40 ?_
        refine r_istore hC dX12_lean_41 (by decide) ?_
        refine r_iload hC dX12_lean_43 rfl ?_
        obtain ⟨o17, hw⟩ := hw
        obtain ⟨hwt, hwf⟩ := hw
        refine r_if_ge hC 54 dX12_lean_45 (by decide) o17.1 o17.2 (fun c19 => ?_) (fun c19 => ?_)
        · have hw := hwt c19
          refine r_iload hC dX12_lean_54 rfl ?_
          exact hQ _ _ _ _ dX12_lean_56 hw
        · have hw := hwf c19
          refine r_iload hC dX12_lean_48 rfl ?_
          refine r_ineg hC dX12_lean_50 ?_
          refine r_goto hC 56 dX12_lean_51 (by decide) ?_
          exact hQ _ _ _ _ dX12_lean_56 hw
      · have hw := hwf c12
        refine r_sipush hC dX12_lean_24 (by decide) ?_
        exact hQ _ _ _ _ dX12_lean_27 hw
set_option maxRecDepth 100000 in
set_option maxHeartbeats 4000000 in
theorem d_m_lean {l : Launch} {D : va_G} {aC : Nat → ClassId} {ad : Nat → Nat} {M : Mem} {x1 : Int} {x2 : Int} {x3 : Int} {Q : Int → Mem → Prop} (hw : w_m_lean M x1 x2 x3 Q) : Does l D aC ad yX12_lean cX12_lean 5 (some .int) 6 142 [vR 12, vI x1, vI x2, vI x3] M (pI Q) :=
  Does.of (by decide) (Nat.le_of_ble_eq_true rfl) (fun p e R s m args below meth c hC => r_subk (s_m_lean hC (fun pc L z M d h => r_iret hC d ⟨z, rfl, h⟩) hw) ⟨rfl, rfl, rfl, rfl, trivial⟩)
/-- SoupSandModel.tank -/
def w_m_tank (M : Mem) (x1 : Int) (x2 : Int) (x3 : Int) (x4 : Int) (Q : Int → Mem → Prop) : Prop :=
  w_m_isLayer M x1 x2 (fun a1 => (-2147483648 ≤ a1 ∧ a1 ≤ 2147483647) ∧ ((¬ (a1 = 0) → (-2147483648 ≤ x3 ∧ x3 ≤ 2147483647) ∧ (w_m_in M x3 1 999 (fun a6 => (-2147483648 ≤ a6 ∧ a6 ≤ 2147483647) ∧ ((a6 = 0 → Q (-1002) M) ∧ (¬ (a6 = 0) → (-2147483648 ≤ x4 ∧ x4 ≤ 2147483647) ∧ (w_m_in M x4 1 99 (fun a11 => (-2147483648 ≤ a11 ∧ a11 ≤ 2147483647) ∧ ((¬ (a11 = 0) → ∀ a15 : Int, a15 = M 12 43 → 0 ≤ a15 → a15 ≤ 8 → (¬ (a15 = 8) → ∀ a20 : Int, a20 = M 12 43 → 0 ≤ a20 → a20 ≤ 8 → ((0 ≤ a20 ∧ a20 < 8) ∧ (0 ≤ x1 ∧ x1 ≤ 5)) ∧ (∀ M23 : Mem, M23 = mset M 86 a20 x1 → ∀ a24 : Int, a24 = M23 12 43 → 0 ≤ a24 → a24 ≤ 8 → ((0 ≤ a24 ∧ a24 < 8) ∧ (0 ≤ x2 ∧ x2 ≤ 5)) ∧ (∀ M27 : Mem, M27 = mset M23 87 a24 x2 → ∀ a28 : Int, a28 = M27 12 43 → 0 ≤ a28 → a28 ≤ 8 → ((0 ≤ a28 ∧ a28 < 8) ∧ (0 ≤ x3 ∧ x3 ≤ 999)) ∧ (∀ M31 : Mem, M31 = mset M27 88 a28 x3 → ∀ a32 : Int, a32 = M31 12 43 → 0 ≤ a32 → a32 ≤ 8 → ((0 ≤ a32 ∧ a32 < 8) ∧ (0 ≤ x4 ∧ x4 ≤ 99)) ∧ (∀ M35 : Mem, M35 = mset M31 89 a32 x4 → ∀ a36 : Int, a36 = M35 12 43 → 0 ≤ a36 → a36 ≤ 8 → (0 ≤ a36 + 1 ∧ a36 + 1 ≤ 8) ∧ (∀ M39 : Mem, M39 = mset M35 12 43 (a36 + 1) → ∀ a40 : Int, a40 = M39 12 43 → 0 ≤ a40 → a40 ≤ 8 → Q (a40 - 1) M39)))))) ∧ (a15 = 8 → Q (-1004) M)) ∧ (a11 = 0 → Q (-1002) M))))))))) ∧ (a1 = 0 → Q (-1001) M)))
set_option maxRecDepth 100000 in
set_option maxHeartbeats 4000000 in
theorem s_m_tank {M : Mem} {x1 : Int} {x2 : Int} {x3 : Int} {x4 : Int} {Q : Int → Mem → Prop} (hC : rC p R s m args meth c cells slots D aC ad 5 cX12_tank RX12 3 67 (some .int)) (hQ : ∀ (pc : Nat) (L : List (Nat × RV)) (z : Int) (M : Mem), decode cX12_tank pc = .ok (.ireturn, 1) → Q z M → rG p l e R s m args below meth c cells slots Qs D aC ad 5 pc L [vI z] M) (hw : w_m_tank M x1 x2 x3 x4 Q) : rG p l e R s m args below meth c cells slots Qs D aC ad 5 0 [(0, vR 12), (1, vI x1), (2, vI x2), (3, vI x3), (4, vI x4)] [] M := by
  unfold w_m_tank at hw
  refine r_aload_n hC dX12_tank_0 rfl rfl ?_
  refine r_iload_n hC dX12_tank_1 rfl rfl ?_
  refine r_iload_n hC dX12_tank_2 rfl rfl ?_
  refine r_callV hC (d_m_isLayer hw) rfl kC12_isLayer km12_186 kI12_isLayer kS12_isLayer kN12 dd_12_isLayer ⟨Nat.le_of_ble_eq_true rfl, Nat.le_of_ble_eq_true rfl⟩ rfl (Nat.le_of_ble_eq_true rfl) dX12_tank_3 (fun r M' hp => ?_)
  obtain ⟨rfl, a1, rfl, hw⟩ := hp
  try dsimp only at hw
  obtain ⟨o2, hw⟩ := hw
  obtain ⟨hwt, hwf⟩ := hw
  refine r_if_ne hC 13 dX12_tank_6 (by decide) o2.1 o2.2 (fun c4 => ?_) (fun c4 => ?_)
  · have hw := hwt c4
    refine r_iload_n hC dX12_tank_13 rfl rfl ?_
    obtain ⟨o5, hw⟩ := hw
    refine r_i2l hC dX12_tank_14 o5.1 o5.2 ?_
    refine r_lconst hC 1 dX12_tank_15 (by decide) ?_
    refine r_ldc2 hC (999) dX12_tank_16 kL12_176 (by decide) ?_
    refine r_callS hC (d_m_in hw) kC12_in km12_165 kT12_in kN12 dd_12_in ⟨Nat.le_of_ble_eq_true rfl, Nat.le_of_ble_eq_true rfl⟩ rfl (Nat.le_of_ble_eq_true rfl) dX12_tank_19 (fun r M' hp => ?_)
    obtain ⟨rfl, a6, rfl, hw⟩ := hp
    try dsimp only at hw
    obtain ⟨o7, hw⟩ := hw
    obtain ⟨hwt, hwf⟩ := hw
    refine r_if_eq hC 38 dX12_tank_22 (by decide) o7.1 o7.2 (fun c9 => ?_) (fun c9 => ?_)
    · have hw := hwt c9
      refine r_sipush hC dX12_tank_38 (by decide) ?_
      exact hQ _ _ _ _ dX12_tank_41 hw
    · have hw := hwf c9
      refine r_iload hC dX12_tank_25 rfl ?_
      obtain ⟨o10, hw⟩ := hw
      refine r_i2l hC dX12_tank_27 o10.1 o10.2 ?_
      refine r_lconst hC 1 dX12_tank_28 (by decide) ?_
      refine r_ldc2 hC (99) dX12_tank_29 kL12_337 (by decide) ?_
      refine r_callS hC (d_m_in hw) kC12_in km12_165 kT12_in kN12 dd_12_in ⟨Nat.le_of_ble_eq_true rfl, Nat.le_of_ble_eq_true rfl⟩ rfl (Nat.le_of_ble_eq_true rfl) dX12_tank_32 (fun r M' hp => ?_)
      obtain ⟨rfl, a11, rfl, hw⟩ := hp
      try dsimp only at hw
      obtain ⟨o12, hw⟩ := hw
      obtain ⟨hwt, hwf⟩ := hw
      refine r_if_ne hC 42 dX12_tank_35 (by decide) o12.1 o12.2 (fun c14 => ?_) (fun c14 => ?_)
      · have hw := hwt c14
        refine r_aload_n hC dX12_tank_42 rfl rfl ?_
        refine r_getI hC 43 rfl (by decide) kf12_216 rfl rfl dX12_tank_43 (fun b16 b16' => ?_)
        replace hw := hw _ rfl b16 b16'
        refine r_bipush hC dX12_tank_46 (by decide) ?_
        obtain ⟨hwt, hwf⟩ := hw
        refine r_icmp_ne hC 55 dX12_tank_48 (by decide) (by omega) (by omega) (by decide) (by decide) (fun c19 => ?_) (fun c19 => ?_)
        · have hw := hwt c19
          refine r_aload_n hC dX12_tank_55 rfl rfl ?_
          refine r_getR hC 44 rfl (by decide) kf12_110 rfl rfl dX12_tank_56 ?_
          refine r_aload_n hC dX12_tank_59 rfl rfl ?_
          refine r_getI hC 43 rfl (by decide) kf12_216 rfl rfl dX12_tank_60 (fun b21 b21' => ?_)
          replace hw := hw _ rfl b21 b21'
          refine r_iload_n hC dX12_tank_63 rfl rfl ?_
          obtain ⟨o22, hw⟩ := hw
          refine r_iast hC rfl o22.1.1 o22.1.2 (by decide) (by decide) o22.2.1 o22.2.2 dX12_tank_64 ?_
          replace hw := hw _ rfl
          refine r_aload_n hC dX12_tank_65 rfl rfl ?_
          refine r_getR hC 45 rfl (by decide) kf12_113 rfl rfl dX12_tank_66 ?_
          refine r_aload_n hC dX12_tank_69 rfl rfl ?_
          refine r_getI hC 43 rfl (by decide) kf12_216 rfl rfl dX12_tank_70 (fun b25 b25' => ?_)
          replace hw := hw _ rfl b25 b25'
          refine r_iload_n hC dX12_tank_73 rfl rfl ?_
          obtain ⟨o26, hw⟩ := hw
          refine r_iast hC rfl o26.1.1 o26.1.2 (by decide) (by decide) o26.2.1 o26.2.2 dX12_tank_74 ?_
          replace hw := hw _ rfl
          refine r_aload_n hC dX12_tank_75 rfl rfl ?_
          refine r_getR hC 46 rfl (by decide) kf12_116 rfl rfl dX12_tank_76 ?_
          refine r_aload_n hC dX12_tank_79 rfl rfl ?_
          refine r_getI hC 43 rfl (by decide) kf12_216 rfl rfl dX12_tank_80 (fun b29 b29' => ?_)
          replace hw := hw _ rfl b29 b29'
          refine r_iload_n hC dX12_tank_83 rfl rfl ?_
          obtain ⟨o30, hw⟩ := hw
          refine r_iast hC rfl o30.1.1 o30.1.2 (by decide) (by decide) o30.2.1 o30.2.2 dX12_tank_84 ?_
          replace hw := hw _ rfl
          refine r_aload_n hC dX12_tank_85 rfl rfl ?_
          refine r_getR hC 47 rfl (by decide) kf12_119 rfl rfl dX12_tank_86 ?_
          refine r_aload_n hC dX12_tank_89 rfl rfl ?_
          refine r_getI hC 43 rfl (by decide) kf12_216 rfl rfl dX12_tank_90 (fun b33 b33' => ?_)
          replace hw := hw _ rfl b33 b33'
          refine r_iload hC dX12_tank_93 rfl ?_
          obtain ⟨o34, hw⟩ := hw
          refine r_iast hC rfl o34.1.1 o34.1.2 (by decide) (by decide) o34.2.1 o34.2.2 dX12_tank_95 ?_
          replace hw := hw _ rfl
          refine r_aload_n hC dX12_tank_96 rfl rfl ?_
          refine r_dup hC dX12_tank_97 rfl ?_
          refine r_getI hC 43 rfl (by decide) kf12_216 rfl rfl dX12_tank_98 (fun b37 b37' => ?_)
          replace hw := hw _ rfl b37 b37'
          refine r_iconst hC dX12_tank_101 ?_
          refine r_iadd hC dX12_tank_102 ?_
          obtain ⟨o38, hw⟩ := hw
          refine r_putI hC 43 rfl (by decide) kf12_216 rfl rfl o38.1 o38.2 dX12_tank_103 ?_
          replace hw := hw _ rfl
          refine r_aload_n hC dX12_tank_106 rfl rfl ?_
          refine r_getI hC 43 rfl (by decide) kf12_216 rfl rfl dX12_tank_107 (fun b41 b41' => ?_)
          replace hw := hw _ rfl b41 b41'
          refine r_iconst hC dX12_tank_110 ?_
          refine r_isub hC dX12_tank_111 ?_
          exact hQ _ _ _ _ dX12_tank_112 hw
        · have hw := hwf c19
          refine r_sipush hC dX12_tank_51 (by decide) ?_
          exact hQ _ _ _ _ dX12_tank_54 hw
      · have hw := hwf c14
        refine r_sipush hC dX12_tank_38 (by decide) ?_
        exact hQ _ _ _ _ dX12_tank_41 hw
  · have hw := hwf c4
    refine r_sipush hC dX12_tank_9 (by decide) ?_
    exact hQ _ _ _ _ dX12_tank_12 hw
set_option maxRecDepth 100000 in
set_option maxHeartbeats 4000000 in
theorem d_m_tank {l : Launch} {D : va_G} {aC : Nat → ClassId} {ad : Nat → Nat} {M : Mem} {x1 : Int} {x2 : Int} {x3 : Int} {x4 : Int} {Q : Int → Mem → Prop} (hw : w_m_tank M x1 x2 x3 x4 Q) : Does l D aC ad yX12_tank cX12_tank 5 (some .int) 3 67 [vR 12, vI x1, vI x2, vI x3, vI x4] M (pI Q) :=
  Does.of (by decide) (Nat.le_of_ble_eq_true rfl) (fun p e R s m args below meth c hC => r_subk (s_m_tank hC (fun pc L z M d h => r_iret hC d ⟨z, rfl, h⟩) hw) ⟨rfl, rfl, rfl, rfl, rfl, trivial⟩)
/-- SoupSandModel.floats -/
def w_m_floats_j0 (Q : Int → Mem → Prop) (s0 : Int) (M : Mem) : Prop :=
  (-2147483648 ≤ s0 ∧ s0 ≤ 2147483647) ∧ ((s0 = 0 → Q 0 M) ∧ (¬ (s0 = 0) → ∀ a4 : Int, a4 = M 12 35 → -1125899906842624 ≤ a4 → a4 ≤ 1125899906842624 → (¬ (a4 = 0) → ∀ a9 : Int, a9 = M 12 35 → -1125899906842624 ≤ a9 → a9 ≤ 1125899906842624 → ∀ a11 : Int, a11 = M 12 36 → -1125899906842624 ≤ a11 → a11 ≤ 1125899906842624 → (a11 ≤ a9 → Q 2 M) ∧ (¬ (a11 ≤ a9) → Q 1 M)) ∧ (a4 = 0 → Q 0 M)))
set_option maxRecDepth 100000 in
set_option maxHeartbeats 4000000 in
theorem s_m_floats_j0 {Q : Int → Mem → Prop} {s0 : Int} {M : Mem} (hC : rC p R s m args meth c cells slots D aC ad 4 cX12_floats RX12 9 213 (some .int)) (hQ : ∀ (pc : Nat) (L : List (Nat × RV)) (z : Int) (M : Mem), decode cX12_floats pc = .ok (.ireturn, 1) → Q z M → rG p l e R s m args below meth c cells slots Qs D aC ad 4 pc L [vI z] M) (hw : w_m_floats_j0 Q s0 M) : rG p l e R s m args below meth c cells slots Qs D aC ad 4 80 [(0, vR 12)] [vI s0] M := by
  unfold w_m_floats_j0 at hw
  refine r_istore_n hC dX12_floats_80 rfl (by decide) ?_
  refine r_iload_n hC dX12_floats_81 rfl rfl ?_
  obtain ⟨o1, hw⟩ := hw
  obtain ⟨hwt, hwf⟩ := hw
  refine r_if_eq hC 94 dX12_floats_82 (by decide) o1.1 o1.2 (fun c3 => ?_) (fun c3 => ?_)
  · have hw := hwt c3
    refine r_iconst hC dX12_floats_94 ?_
    refine r_goto hC 115 dX12_floats_95 (by decide) ?_
    exact hQ _ _ _ _ dX12_floats_115 hw
  · have hw := hwf c3
    refine r_aload_n hC dX12_floats_85 rfl rfl ?_
    refine r_getJ hC 35 rfl (by decide) kf12_279 rfl rfl dX12_floats_86 (fun b5 b5' => ?_)
    replace hw := hw _ rfl b5 b5'
    refine r_lconst hC 0 dX12_floats_89 (by decide) ?_
    obtain ⟨hwt, hwf⟩ := hw
    refine r_lcmp_ne hC 98 dX12_floats_90 dX12_floats_91 (by decide) (by omega) (by omega) (by decide) (by decide) (fun c8 => ?_) (fun c8 => ?_)
    · have hw := hwt c8
      refine r_aload_n hC dX12_floats_98 rfl rfl ?_
      refine r_getJ hC 35 rfl (by decide) kf12_279 rfl rfl dX12_floats_99 (fun b10 b10' => ?_)
      replace hw := hw _ rfl b10 b10'
      refine r_aload_n hC dX12_floats_102 rfl rfl ?_
      refine r_getJ hC 36 rfl (by decide) kf12_282 rfl rfl dX12_floats_103 (fun b12 b12' => ?_)
      replace hw := hw _ rfl b12 b12'
      obtain ⟨hwt, hwf⟩ := hw
      refine r_lcmp_ge hC 114 dX12_floats_106 dX12_floats_107 (by decide) (by omega) (by omega) (by omega) (by omega) (fun c15 => ?_) (fun c15 => ?_)
      · have hw := hwt c15
        refine r_iconst hC dX12_floats_114 ?_
        exact hQ _ _ _ _ dX12_floats_115 hw
      · have hw := hwf c15
        refine r_iconst hC dX12_floats_110 ?_
        refine r_goto hC 115 dX12_floats_111 (by decide) ?_
        exact hQ _ _ _ _ dX12_floats_115 hw
    · have hw := hwf c8
      refine r_iconst hC dX12_floats_94 ?_
      refine r_goto hC 115 dX12_floats_95 (by decide) ?_
      exact hQ _ _ _ _ dX12_floats_115 hw
def w_m_floats (M : Mem) (x1 : Int) (x2 : Int) (Q : Int → Mem → Prop) : Prop :=
  (-2147483648 ≤ x1 ∧ x1 ≤ 2147483647) ∧ (∀ a2 : Int, a2 = M 12 43 → 0 ≤ a2 → a2 ≤ 8 → w_m_in M x1 0 (a2 - 1) (fun a5 => (-2147483648 ≤ a5 ∧ a5 ≤ 2147483647) ∧ ((a5 = 0 → Q (-1001) M) ∧ (¬ (a5 = 0) → w_m_isShake M x2 (fun a9 => (-2147483648 ≤ a9 ∧ a9 ≤ 2147483647) ∧ ((¬ (a9 = 0) → (0 ≤ x1 ∧ x1 < 8) ∧ (∀ a14 : Int, a14 = M 86 x1 → 0 ≤ a14 → a14 ≤ 5 → (0 ≤ x1 ∧ x1 < 8) ∧ (∀ a17 : Int, a17 = M 87 x1 → 0 ≤ a17 → a17 ≤ 5 → w_m_goThrough M a14 x2 a17 (fun a19 M20 => (-2147483648 ≤ a19 ∧ a19 ≤ 2147483647) ∧ ((¬ (a19 = 0) → (0 ≤ x1 ∧ x1 < 8) ∧ (∀ a25 : Int, a25 = M20 88 x1 → 0 ≤ a25 → a25 ≤ 999 → (0 ≤ x1 ∧ x1 < 8) ∧ (∀ a28 : Int, a28 = M20 89 x1 → 0 ≤ a28 → a28 ≤ 99 → ∀ a31 : Int, a31 = M20 64 20 → 0 ≤ a31 → a31 ≤ 999 → (-2147483648 ≤ a28 * a31 ∧ a28 * a31 ≤ 2147483647) ∧ ((a28 * a31 ≤ a25 → w_m_floats_j0 Q 0 M20) ∧ (¬ (a28 * a31 ≤ a25) → w_m_floats_j0 Q 1 M20))))) ∧ (a19 = 0 → Q (-1005) M20)))))) ∧ (a9 = 0 → Q (-1001) M)))))))
set_option maxRecDepth 100000 in
set_option maxHeartbeats 4000000 in
theorem s_m_floats {M : Mem} {x1 : Int} {x2 : Int} {Q : Int → Mem → Prop} (hC : rC p R s m args meth c cells slots D aC ad 4 cX12_floats RX12 9 213 (some .int)) (hQ : ∀ (pc : Nat) (L : List (Nat × RV)) (z : Int) (M : Mem), decode cX12_floats pc = .ok (.ireturn, 1) → Q z M → rG p l e R s m args below meth c cells slots Qs D aC ad 4 pc L [vI z] M) (hw : w_m_floats M x1 x2 Q) : rG p l e R s m args below meth c cells slots Qs D aC ad 4 0 [(0, vR 12), (1, vI x1), (2, vI x2)] [] M := by
  unfold w_m_floats at hw
  refine r_iload_n hC dX12_floats_0 rfl rfl ?_
  obtain ⟨o1, hw⟩ := hw
  refine r_i2l hC dX12_floats_1 o1.1 o1.2 ?_
  refine r_lconst hC 0 dX12_floats_2 (by decide) ?_
  refine r_aload_n hC dX12_floats_3 rfl rfl ?_
  refine r_getI hC 43 rfl (by decide) kf12_216 rfl rfl dX12_floats_4 (fun b3 b3' => ?_)
  replace hw := hw _ rfl b3 b3'
  refine r_iconst hC dX12_floats_7 ?_
  refine r_isub hC dX12_floats_8 ?_
  refine r_i2l hC dX12_floats_9 (by omega) (by omega) ?_
  refine r_callS hC (d_m_in hw) kC12_in km12_165 kT12_in kN12 dd_12_in ⟨Nat.le_of_ble_eq_true rfl, Nat.le_of_ble_eq_true rfl⟩ rfl (Nat.le_of_ble_eq_true rfl) dX12_floats_10 (fun r M' hp => ?_)
  obtain ⟨rfl, a5, rfl, hw⟩ := hp
  try dsimp only at hw
  obtain ⟨o6, hw⟩ := hw
  obtain ⟨hwt, hwf⟩ := hw
  refine r_if_eq hC 24 dX12_floats_13 (by decide) o6.1 o6.2 (fun c8 => ?_) (fun c8 => ?_)
  · have hw := hwt c8
    refine r_sipush hC dX12_floats_24 (by decide) ?_
    exact hQ _ _ _ _ dX12_floats_27 hw
  · have hw := hwf c8
    refine r_aload_n hC dX12_floats_16 rfl rfl ?_
    refine r_iload_n hC dX12_floats_17 rfl rfl ?_
    refine r_callV hC (d_m_isShake hw) rfl kC12_isShake km12_207 kI12_isShake kS12_isShake kN12 dd_12_isShake ⟨Nat.le_of_ble_eq_true rfl, Nat.le_of_ble_eq_true rfl⟩ rfl (Nat.le_of_ble_eq_true rfl) dX12_floats_18 (fun r M' hp => ?_)
    obtain ⟨rfl, a9, rfl, hw⟩ := hp
    try dsimp only at hw
    obtain ⟨o10, hw⟩ := hw
    obtain ⟨hwt, hwf⟩ := hw
    refine r_if_ne hC 28 dX12_floats_21 (by decide) o10.1 o10.2 (fun c12 => ?_) (fun c12 => ?_)
    · have hw := hwt c12
      refine r_aload_n hC dX12_floats_28 rfl rfl ?_
      refine r_aload_n hC dX12_floats_29 rfl rfl ?_
      refine r_getR hC 44 rfl (by decide) kf12_110 rfl rfl dX12_floats_30 ?_
      refine r_iload_n hC dX12_floats_33 rfl rfl ?_
      obtain ⟨o13, hw⟩ := hw
      refine r_iald hC rfl o13.1 o13.2 (by decide) (by decide) dX12_floats_34 (fun b15 b15' => ?_)
      replace hw := hw _ rfl b15 b15'
      refine r_iload_n hC dX12_floats_35 rfl rfl ?_
      refine r_aload_n hC dX12_floats_36 rfl rfl ?_
      refine r_getR hC 45 rfl (by decide) kf12_113 rfl rfl dX12_floats_37 ?_
      refine r_iload_n hC dX12_floats_40 rfl rfl ?_
      obtain ⟨o16, hw⟩ := hw
      refine r_iald hC rfl o16.1 o16.2 (by decide) (by decide) dX12_floats_41 (fun b18 b18' => ?_)
      replace hw := hw _ rfl b18 b18'
      refine r_callV hC (d_m_goThrough hw) rfl kC12_goThrough km12_310 kI12_goThrough kS12_goThrough kN12 dd_12_goThrough ⟨Nat.le_of_ble_eq_true rfl, Nat.le_of_ble_eq_true rfl⟩ rfl (Nat.le_of_ble_eq_true rfl) dX12_floats_42 (fun r M' hp => ?_)
      obtain ⟨a19, rfl, hw⟩ := hp
      try dsimp only at hw
      obtain ⟨o21, hw⟩ := hw
      obtain ⟨hwt, hwf⟩ := hw
      refine r_if_ne hC 52 dX12_floats_45 (by decide) o21.1 o21.2 (fun c23 => ?_) (fun c23 => ?_)
      · have hw := hwt c23
        refine r_aload_n hC dX12_floats_52 rfl rfl ?_
        refine r_getR hC 46 rfl (by decide) kf12_116 rfl rfl dX12_floats_53 ?_
        refine r_iload_n hC dX12_floats_56 rfl rfl ?_
        obtain ⟨o24, hw⟩ := hw
        refine r_iald hC rfl o24.1 o24.2 (by decide) (by decide) dX12_floats_57 (fun b26 b26' => ?_)
        replace hw := hw _ rfl b26 b26'
        refine r_aload_n hC dX12_floats_58 rfl rfl ?_
        refine r_getR hC 47 rfl (by decide) kf12_119 rfl rfl dX12_floats_59 ?_
        refine r_iload_n hC dX12_floats_62 rfl rfl ?_
        obtain ⟨o27, hw⟩ := hw
        refine r_iald hC rfl o27.1 o27.2 (by decide) (by decide) dX12_floats_63 (fun b29 b29' => ?_)
        replace hw := hw _ rfl b29 b29'
        refine r_aload_n hC dX12_floats_64 rfl rfl ?_
        refine r_getR hC 12 rfl (by decide) kf12_43 rfl rfl dX12_floats_65 ?_
        refine r_bipush hC dX12_floats_68 (by decide) ?_
        refine r_iald hC rfl (by decide) (by decide) (by decide) (by decide) dX12_floats_70 (fun b32 b32' => ?_)
        replace hw := hw _ rfl b32 b32'
        refine r_imul hC dX12_floats_71 ?_
        obtain ⟨o34, hw⟩ := hw
        obtain ⟨hwt, hwf⟩ := hw
        refine r_icmp_ge hC 79 dX12_floats_72 (by decide) (by omega) (by omega) o34.1 o34.2 (fun c35 => ?_) (fun c35 => ?_)
        · have hw := hwt c35
          refine r_iconst hC dX12_floats_79 ?_
          exact r_subk (s_m_floats_j0 hC hQ hw) ⟨rfl, trivial⟩
        · have hw := hwf c35
          refine r_iconst hC dX12_floats_75 ?_
          refine r_goto hC 80 dX12_floats_76 (by decide) ?_
          exact r_subk (s_m_floats_j0 hC hQ hw) ⟨rfl, trivial⟩
      · have hw := hwf c23
        refine r_sipush hC dX12_floats_48 (by decide) ?_
        exact hQ _ _ _ _ dX12_floats_51 hw
    · have hw := hwf c12
      refine r_sipush hC dX12_floats_24 (by decide) ?_
      exact hQ _ _ _ _ dX12_floats_27 hw
set_option maxRecDepth 100000 in
set_option maxHeartbeats 4000000 in
theorem d_m_floats {l : Launch} {D : va_G} {aC : Nat → ClassId} {ad : Nat → Nat} {M : Mem} {x1 : Int} {x2 : Int} {Q : Int → Mem → Prop} (hw : w_m_floats M x1 x2 Q) : Does l D aC ad yX12_floats cX12_floats 4 (some .int) 9 213 [vR 12, vI x1, vI x2] M (pI Q) :=
  Does.of (by decide) (Nat.le_of_ble_eq_true rfl) (fun p e R s m args below meth c hC => r_subk (s_m_floats hC (fun pc L z M d h => r_iret hC d ⟨z, rfl, h⟩) hw) ⟨rfl, rfl, rfl, trivial⟩)
/-- SoupSandModel.middle -/
def w_m_middle (M : Mem) (x1 : Int) (x2 : Int) (Q : Int → Prop) : Prop :=
  (0 ≤ x1 ∧ x1 < 6) ∧ (∀ a2 : Int, a2 = M 53 x1 → 0 ≤ a2 → a2 ≤ 999 → w_m_depth M x1 x2 (fun a4 => (0 ≤ (6 * x1) + x2 ∧ (6 * x1) + x2 < 36) ∧ (∀ a6 : Int, a6 = M 57 ((6 * x1) + x2) → 0 ≤ a6 → a6 ≤ 60 → Q ((a2 - a4) - (a6 / 2)))))
set_option maxRecDepth 100000 in
set_option maxHeartbeats 4000000 in
theorem s_m_middle {M : Mem} {x1 : Int} {x2 : Int} {Q : Int → Prop} (hC : rC p R s m args meth c cells slots D aC ad 3 cX12_middle RX12 1 24 (some .int)) (hQ : ∀ (pc : Nat) (L : List (Nat × RV)) (z : Int), decode cX12_middle pc = .ok (.ireturn, 1) → Q z → rG p l e R s m args below meth c cells slots Qs D aC ad 3 pc L [vI z] M) (hw : w_m_middle M x1 x2 Q) : rG p l e R s m args below meth c cells slots Qs D aC ad 3 0 [(0, vR 12), (1, vI x1), (2, vI x2)] [] M := by
  unfold w_m_middle at hw
  refine r_aload_n hC dX12_middle_0 rfl rfl ?_
  refine r_getR hC 0 rfl (by decide) kf12_7 rfl rfl dX12_middle_1 ?_
  refine r_iload_n hC dX12_middle_4 rfl rfl ?_
  obtain ⟨o1, hw⟩ := hw
  refine r_iald hC rfl o1.1 o1.2 (by decide) (by decide) dX12_middle_5 (fun b3 b3' => ?_)
  replace hw := hw _ rfl b3 b3'
  refine r_aload_n hC dX12_middle_6 rfl rfl ?_
  refine r_iload_n hC dX12_middle_7 rfl rfl ?_
  refine r_iload_n hC dX12_middle_8 rfl rfl ?_
  refine r_callV hC (d_m_depth hw) rfl kC12_depth km12_192 kI12_depth kS12_depth kN12 dd_12_depth ⟨Nat.le_of_ble_eq_true rfl, Nat.le_of_ble_eq_true rfl⟩ rfl (Nat.le_of_ble_eq_true rfl) dX12_middle_9 (fun r M' hp => ?_)
  obtain ⟨rfl, a4, rfl, hw⟩ := hp
  try dsimp only at hw
  refine r_isub hC dX12_middle_12 ?_
  refine r_aload_n hC dX12_middle_13 rfl rfl ?_
  refine r_getR hC 4 rfl (by decide) kf12_22 rfl rfl dX12_middle_14 ?_
  refine r_bipush hC dX12_middle_17 (by decide) ?_
  refine r_iload_n hC dX12_middle_19 rfl rfl ?_
  refine r_imul hC dX12_middle_20 ?_
  refine r_iload_n hC dX12_middle_21 rfl rfl ?_
  refine r_iadd hC dX12_middle_22 ?_
  obtain ⟨o5, hw⟩ := hw
  refine r_iald hC rfl o5.1 o5.2 (by decide) (by decide) dX12_middle_23 (fun b7 b7' => ?_)
  replace hw := hw _ rfl b7 b7'
  refine r_iconst hC dX12_middle_24 ?_
  refine r_idiv hC dX12_middle_25 (by omega) (by omega) (by decide) (by decide) ?_
  refine r_isub hC dX12_middle_26 ?_
  exact hQ _ _ _ dX12_middle_27 hw
set_option maxRecDepth 100000 in
set_option maxHeartbeats 4000000 in
theorem d_m_middle {l : Launch} {D : va_G} {aC : Nat → ClassId} {ad : Nat → Nat} {M : Mem} {x1 : Int} {x2 : Int} {Q : Int → Prop} (hw : w_m_middle M x1 x2 Q) : Does l D aC ad yX12_middle cX12_middle 3 (some .int) 1 24 [vR 12, vI x1, vI x2] M (qI M Q) :=
  Does.of (by decide) (Nat.le_of_ble_eq_true rfl) (fun p e R s m args below meth c hC => r_subk (s_m_middle hC (fun pc L z d h => r_iret hC d ⟨rfl, ⟨z, rfl, h⟩⟩) hw) ⟨rfl, rfl, rfl, trivial⟩)
/-- SoupSandModel.above -/
def w_m_above_j0 (Q : Int → Prop) (X5 : Int → Int → Prop) (x1 : Int) (x2 : Int) (x3 : Int) (x4 : Int) (x5 : Int) (s0 : Int) (M : Mem) : Prop :=
  (-2147483648 ≤ x5 ∧ x5 ≤ 2147483647) ∧ ((-2147483648 ≤ s0 ∧ s0 ≤ 2147483647) ∧ ((x5 ≤ s0 → X5 (x3 + 0) (x4 + 1)) ∧ (¬ (x5 ≤ s0) → w_m_heavy M x1 x4 (fun a4 => X5 (x3 + ((x5 - s0) * a4)) (x4 + 1)))))
set_option maxRecDepth 100000 in
set_option maxHeartbeats 4000000 in
theorem s_m_above_j0 {Q : Int → Prop} {X5 : Int → Int → Prop} {x1 : Int} {x2 : Int} {x3 : Int} {x4 : Int} {x5 : Int} {s0 : Int} {M : Mem} (hC : rC p R s m args meth c cells slots D aC ad 7 cX12_above RX12 3 68 (some .int)) (hQ : ∀ (pc : Nat) (L : List (Nat × RV)) (z : Int), decode cX12_above pc = .ok (.ireturn, 1) → Q z → rG p l e R s m args below meth c cells slots Qs D aC ad 7 pc L [vI z] M) (hX5 : ∀ (x3 : Int) (x4 : Int), X5 x3 x4 → rG p l e R s m args below meth c cells slots Qs D aC ad 7 5 [(0, vR 12), (1, vI x1), (2, vI x2), (3, vI x3), (4, vI x4)] [] M) (hw : w_m_above_j0 Q X5 x1 x2 x3 x4 x5 s0 M) : rG p l e R s m args below meth c cells slots Qs D aC ad 7 61 [(0, vR 12), (1, vI x1), (2, vI x2), (3, vI x3), (4, vI x4), (5, vI x5)] [vI s0] M := by
  unfold w_m_above_j0 at hw
  refine r_istore hC dX12_above_61 (by decide) ?_
  refine r_iload_n hC dX12_above_63 rfl rfl ?_
  refine r_iload hC dX12_above_64 rfl ?_
  refine r_iload hC dX12_above_66 rfl ?_
  obtain ⟨o1, hw⟩ := hw
  obtain ⟨o2, hw⟩ := hw
  obtain ⟨hwt, hwf⟩ := hw
  refine r_icmp_le hC 87 dX12_above_68 (by decide) o1.1 o1.2 o2.1 o2.2 (fun c3 => ?_) (fun c3 => ?_)
  · have hw := hwt c3
    refine r_iconst hC dX12_above_87 ?_
    refine r_iadd hC dX12_above_88 ?_
    refine r_istore_n hC dX12_above_89 rfl (by decide) ?_
    refine r_iinc hC dX12_above_90 rfl (by decide) ?_
    refine r_goto hC 5 dX12_above_93 (by decide) ?_
    exact r_subk (hX5 _ _ hw) ⟨rfl, rfl, rfl, rfl, rfl, trivial⟩
  · have hw := hwf c3
    refine r_iload hC dX12_above_71 rfl ?_
    refine r_iload hC dX12_above_73 rfl ?_
    refine r_isub hC dX12_above_75 ?_
    refine r_aload_n hC dX12_above_76 rfl rfl ?_
    refine r_iload_n hC dX12_above_77 rfl rfl ?_
    refine r_iload hC dX12_above_78 rfl ?_
    refine r_callV hC (d_m_heavy hw) rfl kC12_heavy km12_199 kI12_heavy kS12_heavy kN12 dd_12_heavy ⟨Nat.le_of_ble_eq_true rfl, Nat.le_of_ble_eq_true rfl⟩ rfl (Nat.le_of_ble_eq_true rfl) dX12_above_80 (fun r M' hp => ?_)
    obtain ⟨rfl, a4, rfl, hw⟩ := hp
    try dsimp only at hw
    refine r_imul hC dX12_above_83 ?_
    refine r_goto hC 88 dX12_above_84 (by decide) ?_
    refine r_iadd hC dX12_above_88 ?_
    refine r_istore_n hC dX12_above_89 rfl (by decide) ?_
    refine r_iinc hC dX12_above_90 rfl (by decide) ?_
    refine r_goto hC 5 dX12_above_93 (by decide) ?_
    exact r_subk (hX5 _ _ hw) ⟨rfl, rfl, rfl, rfl, rfl, trivial⟩
def w_m_above_B0 (Q : Int → Prop) (x1 : Int) (x2 : Int) (M : Mem) (X5 : Int → Int → Prop) (x3 : Int) (x4 : Int) : Prop :=
  (0 ≤ x1 ∧ x1 < 6) ∧ (∀ a2 : Int, a2 = M 55 x1 → 0 ≤ a2 → a2 ≤ 6 → (-2147483648 ≤ x4 ∧ x4 ≤ 2147483647) ∧ ((a2 ≤ x4 → Q x3) ∧ (¬ (a2 ≤ x4) → (0 ≤ x1 ∧ x1 < 6) ∧ (∀ a8 : Int, a8 = M 53 x1 → 0 ≤ a8 → a8 ≤ 999 → w_m_depth M x1 x4 (fun a10 => (0 ≤ (6 * x1) + x4 ∧ (6 * x1) + x4 < 36) ∧ (∀ a12 : Int, a12 = M 57 ((6 * x1) + x4) → 0 ≤ a12 → a12 ≤ 60 → (-2147483648 ≤ (a8 - a10) - a12 ∧ (a8 - a10) - a12 ≤ 2147483647) ∧ ((-2147483648 ≤ x2 ∧ x2 ≤ 2147483647) ∧ ((x2 ≤ (a8 - a10) - a12 → w_m_above_j0 Q X5 x1 x2 x3 x4 (a8 - a10) ((a8 - a10) - a12) M) ∧ (¬ (x2 ≤ (a8 - a10) - a12) → w_m_above_j0 Q X5 x1 x2 x3 x4 (a8 - a10) x2 M)))))))))
set_option maxRecDepth 100000 in
set_option maxHeartbeats 4000000 in
theorem s_m_above_B0 {Q : Int → Prop} {x1 : Int} {x2 : Int} {M : Mem} {X5 : Int → Int → Prop} {x3 : Int} {x4 : Int} (hC : rC p R s m args meth c cells slots D aC ad 7 cX12_above RX12 3 68 (some .int)) (hQ : ∀ (pc : Nat) (L : List (Nat × RV)) (z : Int), decode cX12_above pc = .ok (.ireturn, 1) → Q z → rG p l e R s m args below meth c cells slots Qs D aC ad 7 pc L [vI z] M) (hX5 : ∀ (x3 : Int) (x4 : Int), X5 x3 x4 → rG p l e R s m args below meth c cells slots Qs D aC ad 7 5 [(0, vR 12), (1, vI x1), (2, vI x2), (3, vI x3), (4, vI x4)] [] M) (hw : w_m_above_B0 Q x1 x2 M X5 x3 x4) : rG p l e R s m args below meth c cells slots Qs D aC ad 7 5 [(0, vR 12), (1, vI x1), (2, vI x2), (3, vI x3), (4, vI x4)] [] M := by
  unfold w_m_above_B0 at hw
  refine r_iload hC dX12_above_5 rfl ?_
  refine r_aload_n hC dX12_above_7 rfl rfl ?_
  refine r_getR hC 2 rfl (by decide) kf12_16 rfl rfl dX12_above_8 ?_
  refine r_iload_n hC dX12_above_11 rfl rfl ?_
  obtain ⟨o1, hw⟩ := hw
  refine r_iald hC rfl o1.1 o1.2 (by decide) (by decide) dX12_above_12 (fun b3 b3' => ?_)
  replace hw := hw _ rfl b3 b3'
  obtain ⟨o4, hw⟩ := hw
  obtain ⟨hwt, hwf⟩ := hw
  refine r_icmp_ge hC 96 dX12_above_13 (by decide) o4.1 o4.2 (by omega) (by omega) (fun c6 => ?_) (fun c6 => ?_)
  · have hw := hwt c6
    refine r_iload_n hC dX12_above_96 rfl rfl ?_
    exact hQ _ _ _ dX12_above_97 hw
  · have hw := hwf c6
    refine r_aload_n hC dX12_above_16 rfl rfl ?_
    refine r_getR hC 0 rfl (by decide) kf12_7 rfl rfl dX12_above_17 ?_
    refine r_iload_n hC dX12_above_20 rfl rfl ?_
    obtain ⟨o7, hw⟩ := hw
    refine r_iald hC rfl o7.1 o7.2 (by decide) (by decide) dX12_above_21 (fun b9 b9' => ?_)
    replace hw := hw _ rfl b9 b9'
    refine r_aload_n hC dX12_above_22 rfl rfl ?_
    refine r_iload_n hC dX12_above_23 rfl rfl ?_
    refine r_iload hC dX12_above_24 rfl ?_
    refine r_callV hC (d_m_depth hw) rfl kC12_depth km12_192 kI12_depth kS12_depth kN12 dd_12_depth ⟨Nat.le_of_ble_eq_true rfl, Nat.le_of_ble_eq_true rfl⟩ rfl (Nat.le_of_ble_eq_true rfl) dX12_above_26 (fun r M' hp => ?_)
    obtain ⟨rfl, a10, rfl, hw⟩ := hp
    try dsimp only at hw
    refine r_isub hC dX12_above_29 ?_
    refine r_istore hC dX12_above_30 (by decide) ?_
    refine r_iload hC dX12_above_32 rfl ?_
    refine r_aload_n hC dX12_above_34 rfl rfl ?_
    refine r_getR hC 4 rfl (by decide) kf12_22 rfl rfl dX12_above_35 ?_
    refine r_bipush hC dX12_above_38 (by decide) ?_
    refine r_iload_n hC dX12_above_40 rfl rfl ?_
    refine r_imul hC dX12_above_41 ?_
    refine r_iload hC dX12_above_42 rfl ?_
    refine r_iadd hC dX12_above_44 ?_
    obtain ⟨o11, hw⟩ := hw
    refine r_iald hC rfl o11.1 o11.2 (by decide) (by decide) dX12_above_45 (fun b13 b13' => ?_)
    replace hw := hw _ rfl b13 b13'
    refine r_isub hC dX12_above_46 ?_
    refine r_istore hC dX12_above_47 (by decide) ?_
    refine r_iload hC dX12_above_49 rfl ?_
    refine r_iload_n hC dX12_above_51 rfl rfl ?_
    obtain ⟨o14, hw⟩ := hw
    obtain ⟨o15, hw⟩ := hw
    obtain ⟨hwt, hwf⟩ := hw
    refine r_icmp_ge hC 59 dX12_above_52 (by decide) o14.1 o14.2 o15.1 o15.2 (fun c16 => ?_) (fun c16 => ?_)
    · have hw := hwt c16
      refine r_iload hC dX12_above_59 rfl ?_
      exact r_subk (s_m_above_j0 hC hQ hX5 hw) ⟨rfl, rfl, rfl, rfl, rfl, rfl, trivial⟩
    · have hw := hwf c16
      refine r_iload_n hC dX12_above_55 rfl rfl ?_
      refine r_goto hC 61 dX12_above_56 (by decide) ?_
      exact r_subk (s_m_above_j0 hC hQ hX5 hw) ⟨rfl, rfl, rfl, rfl, rfl, rfl, trivial⟩
def w_m_above_L0 (Q : Int → Prop) (x1 : Int) (x2 : Int) (M : Mem) (x3 : Int) (x4 : Int) : Prop :=
  ∀ X : Int → Int → Prop, (∀ (x3 : Int) (x4 : Int), w_m_above_B0 Q x1 x2 M X x3 x4 → X x3 x4) → X x3 x4
set_option maxRecDepth 100000 in
set_option maxHeartbeats 4000000 in
theorem s_m_above_L0 {Q : Int → Prop} {x1 : Int} {x2 : Int} {M : Mem} {x3 : Int} {x4 : Int} (hC : rC p R s m args meth c cells slots D aC ad 7 cX12_above RX12 3 68 (some .int)) (hQ : ∀ (pc : Nat) (L : List (Nat × RV)) (z : Int), decode cX12_above pc = .ok (.ireturn, 1) → Q z → rG p l e R s m args below meth c cells slots Qs D aC ad 7 pc L [vI z] M) (hw : w_m_above_L0 Q x1 x2 M x3 x4) : rG p l e R s m args below meth c cells slots Qs D aC ad 7 5 [(0, vR 12), (1, vI x1), (2, vI x2), (3, vI x3), (4, vI x4)] [] M := by
  unfold w_m_above_L0 at hw
  exact hw (fun x3 x4 => rG p l e R s m args below meth c cells slots Qs D aC ad 7 5 [(0, vR 12), (1, vI x1), (2, vI x2), (3, vI x3), (4, vI x4)] [] M) (fun x3 x4 hb => s_m_above_B0 hC hQ (fun _ _ h => h) hb)
def w_m_above (M : Mem) (x1 : Int) (x2 : Int) (Q : Int → Prop) : Prop :=
  w_m_above_L0 Q x1 x2 M 0 0
set_option maxRecDepth 100000 in
set_option maxHeartbeats 4000000 in
theorem s_m_above {M : Mem} {x1 : Int} {x2 : Int} {Q : Int → Prop} (hC : rC p R s m args meth c cells slots D aC ad 7 cX12_above RX12 3 68 (some .int)) (hQ : ∀ (pc : Nat) (L : List (Nat × RV)) (z : Int), decode cX12_above pc = .ok (.ireturn, 1) → Q z → rG p l e R s m args below meth c cells slots Qs D aC ad 7 pc L [vI z] M) (hw : w_m_above M x1 x2 Q) : rG p l e R s m args below meth c cells slots Qs D aC ad 7 0 [(0, vR 12), (1, vI x1), (2, vI x2)] [] M := by
  unfold w_m_above at hw
  refine r_iconst hC dX12_above_0 ?_
  refine r_istore_n hC dX12_above_1 rfl (by decide) ?_
  refine r_iconst hC dX12_above_2 ?_
  refine r_istore hC dX12_above_3 (by decide) ?_
  exact r_subk (s_m_above_L0 hC hQ hw) ⟨rfl, rfl, rfl, rfl, rfl, trivial⟩
set_option maxRecDepth 100000 in
set_option maxHeartbeats 4000000 in
theorem d_m_above {l : Launch} {D : va_G} {aC : Nat → ClassId} {ad : Nat → Nat} {M : Mem} {x1 : Int} {x2 : Int} {Q : Int → Prop} (hw : w_m_above M x1 x2 Q) : Does l D aC ad yX12_above cX12_above 7 (some .int) 3 68 [vR 12, vI x1, vI x2] M (qI M Q) :=
  Does.of (by decide) (Nat.le_of_ble_eq_true rfl) (fun p e R s m args below meth c hC => r_subk (s_m_above hC (fun pc L z d h => r_iret hC d ⟨rfl, ⟨z, rfl, h⟩⟩) hw) ⟨rfl, rfl, rfl, trivial⟩)
/-- SoupSandModel.layerAt -/
def w_m_layerAt_B0 (Q : Int → Prop) (x1 : Int) (x2 : Int) (M : Mem) (X2 : Int → Prop) (x3 : Int) : Prop :=
  (0 ≤ x1 ∧ x1 < 6) ∧ (∀ a2 : Int, a2 = M 55 x1 → 0 ≤ a2 → a2 ≤ 6 → (-2147483648 ≤ x3 ∧ x3 ≤ 2147483647) ∧ ((a2 ≤ x3 → Q (-1)) ∧ (¬ (a2 ≤ x3) → (0 ≤ x1 ∧ x1 < 6) ∧ (∀ a8 : Int, a8 = M 53 x1 → 0 ≤ a8 → a8 ≤ 999 → w_m_depth M x1 x3 (fun a10 => (-2147483648 ≤ a8 - a10 ∧ a8 - a10 ≤ 2147483647) ∧ ((-2147483648 ≤ x2 ∧ x2 ≤ 2147483647) ∧ ((a8 - a10 < x2 → X2 (x3 + 1)) ∧ (¬ (a8 - a10 < x2) → (0 ≤ (6 * x1) + x3 ∧ (6 * x1) + x3 < 36) ∧ (∀ a15 : Int, a15 = M 57 ((6 * x1) + x3) → 0 ≤ a15 → a15 ≤ 60 → (-2147483648 ≤ (a8 - a10) - a15 ∧ (a8 - a10) - a15 ≤ 2147483647) ∧ ((-2147483648 ≤ x2 ∧ x2 ≤ 2147483647) ∧ ((x2 ≤ (a8 - a10) - a15 → X2 (x3 + 1)) ∧ (¬ (x2 ≤ (a8 - a10) - a15) → Q x3))))))))))))
set_option maxRecDepth 100000 in
set_option maxHeartbeats 4000000 in
theorem s_m_layerAt_B0 {Q : Int → Prop} {x1 : Int} {x2 : Int} {M : Mem} {X2 : Int → Prop} {x3 : Int} (hC : rC p R s m args meth c cells slots D aC ad 5 cX12_layerAt RX12 1 24 (some .int)) (hQ : ∀ (pc : Nat) (L : List (Nat × RV)) (z : Int), decode cX12_layerAt pc = .ok (.ireturn, 1) → Q z → rG p l e R s m args below meth c cells slots Qs D aC ad 5 pc L [vI z] M) (hX2 : ∀ (x3 : Int), X2 x3 → rG p l e R s m args below meth c cells slots Qs D aC ad 5 2 [(0, vR 12), (1, vI x1), (2, vI x2), (3, vI x3)] [] M) (hw : w_m_layerAt_B0 Q x1 x2 M X2 x3) : rG p l e R s m args below meth c cells slots Qs D aC ad 5 2 [(0, vR 12), (1, vI x1), (2, vI x2), (3, vI x3)] [] M := by
  unfold w_m_layerAt_B0 at hw
  refine r_iload_n hC dX12_layerAt_2 rfl rfl ?_
  refine r_aload_n hC dX12_layerAt_3 rfl rfl ?_
  refine r_getR hC 2 rfl (by decide) kf12_16 rfl rfl dX12_layerAt_4 ?_
  refine r_iload_n hC dX12_layerAt_7 rfl rfl ?_
  obtain ⟨o1, hw⟩ := hw
  refine r_iald hC rfl o1.1 o1.2 (by decide) (by decide) dX12_layerAt_8 (fun b3 b3' => ?_)
  replace hw := hw _ rfl b3 b3'
  obtain ⟨o4, hw⟩ := hw
  obtain ⟨hwt, hwf⟩ := hw
  refine r_icmp_ge hC 59 dX12_layerAt_9 (by decide) o4.1 o4.2 (by omega) (by omega) (fun c6 => ?_) (fun c6 => ?_)
  · have hw := hwt c6
    refine r_iconst hC dX12_layerAt_59 ?_
    exact hQ _ _ _ dX12_layerAt_60 hw
  · have hw := hwf c6
    refine r_aload_n hC dX12_layerAt_12 rfl rfl ?_
    refine r_getR hC 0 rfl (by decide) kf12_7 rfl rfl dX12_layerAt_13 ?_
    refine r_iload_n hC dX12_layerAt_16 rfl rfl ?_
    obtain ⟨o7, hw⟩ := hw
    refine r_iald hC rfl o7.1 o7.2 (by decide) (by decide) dX12_layerAt_17 (fun b9 b9' => ?_)
    replace hw := hw _ rfl b9 b9'
    refine r_aload_n hC dX12_layerAt_18 rfl rfl ?_
    refine r_iload_n hC dX12_layerAt_19 rfl rfl ?_
    refine r_iload_n hC dX12_layerAt_20 rfl rfl ?_
    refine r_callV hC (d_m_depth hw) rfl kC12_depth km12_192 kI12_depth kS12_depth kN12 dd_12_depth ⟨Nat.le_of_ble_eq_true rfl, Nat.le_of_ble_eq_true rfl⟩ rfl (Nat.le_of_ble_eq_true rfl) dX12_layerAt_21 (fun r M' hp => ?_)
    obtain ⟨rfl, a10, rfl, hw⟩ := hp
    try dsimp only at hw
    refine r_isub hC dX12_layerAt_24 ?_
    refine r_istore hC dX12_layerAt_25 (by decide) ?_
    refine r_iload hC dX12_layerAt_27 rfl ?_
    refine r_iload_n hC dX12_layerAt_29 rfl rfl ?_
    obtain ⟨o11, hw⟩ := hw
    obtain ⟨o12, hw⟩ := hw
    obtain ⟨hwt, hwf⟩ := hw
    refine r_icmp_lt hC 53 dX12_layerAt_30 (by decide) o11.1 o11.2 o12.1 o12.2 (fun c13 => ?_) (fun c13 => ?_)
    · have hw := hwt c13
      refine r_iinc hC dX12_layerAt_53 rfl (by decide) ?_
      refine r_goto hC 2 dX12_layerAt_56 (by decide) ?_
      exact r_subk (hX2 _ hw) ⟨rfl, rfl, rfl, rfl, trivial⟩
    · have hw := hwf c13
      refine r_iload hC dX12_layerAt_33 rfl ?_
      refine r_aload_n hC dX12_layerAt_35 rfl rfl ?_
      refine r_getR hC 4 rfl (by decide) kf12_22 rfl rfl dX12_layerAt_36 ?_
      refine r_bipush hC dX12_layerAt_39 (by decide) ?_
      refine r_iload_n hC dX12_layerAt_41 rfl rfl ?_
      refine r_imul hC dX12_layerAt_42 ?_
      refine r_iload_n hC dX12_layerAt_43 rfl rfl ?_
      refine r_iadd hC dX12_layerAt_44 ?_
      obtain ⟨o14, hw⟩ := hw
      refine r_iald hC rfl o14.1 o14.2 (by decide) (by decide) dX12_layerAt_45 (fun b16 b16' => ?_)
      replace hw := hw _ rfl b16 b16'
      refine r_isub hC dX12_layerAt_46 ?_
      refine r_iload_n hC dX12_layerAt_47 rfl rfl ?_
      obtain ⟨o17, hw⟩ := hw
      obtain ⟨o18, hw⟩ := hw
      obtain ⟨hwt, hwf⟩ := hw
      refine r_icmp_ge hC 53 dX12_layerAt_48 (by decide) o17.1 o17.2 o18.1 o18.2 (fun c19 => ?_) (fun c19 => ?_)
      · have hw := hwt c19
        refine r_iinc hC dX12_layerAt_53 rfl (by decide) ?_
        refine r_goto hC 2 dX12_layerAt_56 (by decide) ?_
        exact r_subk (hX2 _ hw) ⟨rfl, rfl, rfl, rfl, trivial⟩
      · have hw := hwf c19
        refine r_iload_n hC dX12_layerAt_51 rfl rfl ?_
        exact hQ _ _ _ dX12_layerAt_52 hw
def w_m_layerAt_L0 (Q : Int → Prop) (x1 : Int) (x2 : Int) (M : Mem) (x3 : Int) : Prop :=
  ∀ X : Int → Prop, (∀ (x3 : Int), w_m_layerAt_B0 Q x1 x2 M X x3 → X x3) → X x3
set_option maxRecDepth 100000 in
set_option maxHeartbeats 4000000 in
theorem s_m_layerAt_L0 {Q : Int → Prop} {x1 : Int} {x2 : Int} {M : Mem} {x3 : Int} (hC : rC p R s m args meth c cells slots D aC ad 5 cX12_layerAt RX12 1 24 (some .int)) (hQ : ∀ (pc : Nat) (L : List (Nat × RV)) (z : Int), decode cX12_layerAt pc = .ok (.ireturn, 1) → Q z → rG p l e R s m args below meth c cells slots Qs D aC ad 5 pc L [vI z] M) (hw : w_m_layerAt_L0 Q x1 x2 M x3) : rG p l e R s m args below meth c cells slots Qs D aC ad 5 2 [(0, vR 12), (1, vI x1), (2, vI x2), (3, vI x3)] [] M := by
  unfold w_m_layerAt_L0 at hw
  exact hw (fun x3 => rG p l e R s m args below meth c cells slots Qs D aC ad 5 2 [(0, vR 12), (1, vI x1), (2, vI x2), (3, vI x3)] [] M) (fun x3 hb => s_m_layerAt_B0 hC hQ (fun _ h => h) hb)
def w_m_layerAt (M : Mem) (x1 : Int) (x2 : Int) (Q : Int → Prop) : Prop :=
  w_m_layerAt_L0 Q x1 x2 M 0
set_option maxRecDepth 100000 in
set_option maxHeartbeats 4000000 in
theorem s_m_layerAt {M : Mem} {x1 : Int} {x2 : Int} {Q : Int → Prop} (hC : rC p R s m args meth c cells slots D aC ad 5 cX12_layerAt RX12 1 24 (some .int)) (hQ : ∀ (pc : Nat) (L : List (Nat × RV)) (z : Int), decode cX12_layerAt pc = .ok (.ireturn, 1) → Q z → rG p l e R s m args below meth c cells slots Qs D aC ad 5 pc L [vI z] M) (hw : w_m_layerAt M x1 x2 Q) : rG p l e R s m args below meth c cells slots Qs D aC ad 5 0 [(0, vR 12), (1, vI x1), (2, vI x2)] [] M := by
  unfold w_m_layerAt at hw
  refine r_iconst hC dX12_layerAt_0 ?_
  refine r_istore_n hC dX12_layerAt_1 rfl (by decide) ?_
  exact r_subk (s_m_layerAt_L0 hC hQ hw) ⟨rfl, rfl, rfl, rfl, trivial⟩
set_option maxRecDepth 100000 in
set_option maxHeartbeats 4000000 in
theorem d_m_layerAt {l : Launch} {D : va_G} {aC : Nat → ClassId} {ad : Nat → Nat} {M : Mem} {x1 : Int} {x2 : Int} {Q : Int → Prop} (hw : w_m_layerAt M x1 x2 Q) : Does l D aC ad yX12_layerAt cX12_layerAt 5 (some .int) 1 24 [vR 12, vI x1, vI x2] M (qI M Q) :=
  Does.of (by decide) (Nat.le_of_ble_eq_true rfl) (fun p e R s m args below meth c hC => r_subk (s_m_layerAt hC (fun pc L z d h => r_iret hC d ⟨rfl, ⟨z, rfl, h⟩⟩) hw) ⟨rfl, rfl, rfl, trivial⟩)
theorem dd_12_above : yX12_above.cls ≠ "java/lang/invoke/MethodHandle" ∧ yX12_above.cls ≠ "java/lang/invoke/VarHandle" ∧ (parseMethodDescriptor yX12_above.desc).map (fun d => d.parameters.length) = some 2 := by decide +kernel
theorem dd_12_layerAt : yX12_layerAt.cls ≠ "java/lang/invoke/MethodHandle" ∧ yX12_layerAt.cls ≠ "java/lang/invoke/VarHandle" ∧ (parseMethodDescriptor yX12_layerAt.desc).map (fun d => d.parameters.length) = some 2 := by decide +kernel
/-- SoupSandModel.findSlip -/
def w_m_findSlip_j1 (Q : Int → Mem → Prop) (X37 : Int → Mem → Prop) (x1 : Int) (x2 : Int) (x3 : Int) (x4 : Int) (x6 : Int) (x7 : Int) (s1 : Int) (s2 : Int) (M : Mem) : Prop :=
  (-1125899906842624 ≤ s1 + s2 ∧ s1 + s2 ≤ 1125899906842624) ∧ (∀ M2 : Mem, M2 = mset M 12 48 (s1 + s2) → X37 (x7 + 1) M2)
set_option maxRecDepth 100000 in
set_option maxHeartbeats 4000000 in
theorem s_m_findSlip_j1 {Q : Int → Mem → Prop} {X37 : Int → Mem → Prop} {x1 : Int} {x2 : Int} {x3 : Int} {x4 : Int} {x6 : Int} {x7 : Int} {s1 : Int} {s2 : Int} {M : Mem} (hC : rC p R s m args meth c cells slots D aC ad 10 cX12_findSlip RX12 5 120 (some .boolean)) (hQ : ∀ (pc : Nat) (L : List (Nat × RV)) (z : Int) (M : Mem), decode cX12_findSlip pc = .ok (.ireturn, 1) → 0 ≤ z → z ≤ 1 → Q z M → rG p l e R s m args below meth c cells slots Qs D aC ad 10 pc L [vI z] M) (hX37 : ∀ (x7 : Int) (M : Mem), X37 x7 M → rG p l e R s m args below meth c cells slots Qs D aC ad 10 37 [(0, vR 12), (1, vI x1), (2, vI x2), (3, vI x3), (4, vI x4), (6, vI x6), (7, vI x7)] [] M) (hw : w_m_findSlip_j1 Q X37 x1 x2 x3 x4 x6 x7 s1 s2 M) : rG p l e R s m args below meth c cells slots Qs D aC ad 10 149 [(0, vR 12), (1, vI x1), (2, vI x2), (3, vI x3), (4, vI x4), (6, vI x6), (7, vI x7)] [vJ s2, vJ s1, vR 12] M := by
  unfold w_m_findSlip_j1 at hw
  refine r_ladd hC dX12_findSlip_149 ?_
  obtain ⟨o1, hw⟩ := hw
  refine r_putJ hC 48 rfl (by decide) kf12_339 rfl rfl o1.1 o1.2 dX12_findSlip_150 ?_
  replace hw := hw _ rfl
  refine r_iinc hC dX12_findSlip_153 rfl (by decide) ?_
  refine r_goto hC 37 dX12_findSlip_156 (by decide) ?_
  exact r_subk (hX37 _ _ hw) ⟨rfl, rfl, rfl, rfl, rfl, rfl, rfl, trivial⟩
def w_m_findSlip_B0 (Q : Int → Mem → Prop) (x1 : Int) (x2 : Int) (x3 : Int) (x4 : Int) (x6 : Int) (X37 : Int → Mem → Prop) (x7 : Int) (M : Mem) : Prop :=
  (-2147483648 ≤ x7 ∧ x7 ≤ 2147483647) ∧ ((-2147483648 ≤ x6 ∧ x6 ≤ 2147483647) ∧ ((x6 < x7 → w_m_above M x2 x4 (fun a4 => w_m_above M x3 x4 (fun a5 => (-2147483648 ≤ a4 - a5 ∧ a4 - a5 ≤ 2147483647) ∧ ((-1125899906842624 ≤ a4 - a5 ∧ a4 - a5 ≤ 1125899906842624) ∧ (∀ M8 : Mem, M8 = mset M 12 49 (a4 - a5) → ∀ a9 : Int, a9 = M8 12 49 → -1125899906842624 ≤ a9 → a9 ≤ 1125899906842624 → (a9 ≤ 0 → Q 0 M8) ∧ (¬ (a9 ≤ 0) → Q 1 M8)))))) ∧ (¬ (x6 < x7) → w_m_layerAt M x7 x4 (fun a16 => (-2147483648 ≤ a16 ∧ a16 ≤ 2147483647) ∧ ((0 ≤ a16 → w_m_choose M x7 0 (fun M21 => w_m_runOf M21 x7 x1 (fun M23 => w_m_hold M23 x7 a16 (fun a24 => (0 ≤ a16 ∧ a16 < 6) ∧ (∀ a26 : Int, a26 = M23 69 a16 → 0 ≤ a26 → a26 ≤ 20000000 → (0 ≤ a24 * (1000 - a26) ∧ a24 * (1000 - a26) ≤ 2147483647) ∧ ((0 ≤ (6 * x7) + a16 ∧ (6 * x7) + a16 < 36) ∧ (∀ a30 : Int, a30 = M23 56 ((6 * x7) + a16) → 0 ≤ a30 → a30 ≤ 3 → ∀ a33 : Int, a33 = M23 64 ((5 * a30) + 4) → 0 ≤ a33 → a33 ≤ 999 → (0 ≤ ((a24 * (1000 - a26)) / 1000) * a33 ∧ ((a24 * (1000 - a26)) / 1000) * a33 ≤ 2147483647) ∧ (∀ a36 : Int, a36 = M23 12 48 → -1125899906842624 ≤ a36 → a36 ≤ 1125899906842624 → (0 ≤ a16 ∧ a16 < 6) ∧ (∀ a39 : Int, a39 = M23 70 a16 → -1 ≤ a39 → a39 ≤ 59 → (a39 < 0 → (-2147483648 ≤ (((a24 * (1000 - a26)) / 1000) * a33) / 100 ∧ (((a24 * (1000 - a26)) / 1000) * a33) / 100 ≤ 2147483647) ∧ (w_m_findSlip_j1 Q X37 x1 x2 x3 x4 x6 x7 a36 ((((a24 * (1000 - a26)) / 1000) * a33) / 100) M23)) ∧ (¬ (a39 < 0) → w_m_findSlip_j1 Q X37 x1 x2 x3 x4 x6 x7 a36 0 M23)))))))))) ∧ (¬ (0 ≤ a16) → Q 0 M))))))
set_option maxRecDepth 100000 in
set_option maxHeartbeats 4000000 in
theorem s_m_findSlip_B0 {Q : Int → Mem → Prop} {x1 : Int} {x2 : Int} {x3 : Int} {x4 : Int} {x6 : Int} {X37 : Int → Mem → Prop} {x7 : Int} {M : Mem} (hC : rC p R s m args meth c cells slots D aC ad 10 cX12_findSlip RX12 5 120 (some .boolean)) (hQ : ∀ (pc : Nat) (L : List (Nat × RV)) (z : Int) (M : Mem), decode cX12_findSlip pc = .ok (.ireturn, 1) → 0 ≤ z → z ≤ 1 → Q z M → rG p l e R s m args below meth c cells slots Qs D aC ad 10 pc L [vI z] M) (hX37 : ∀ (x7 : Int) (M : Mem), X37 x7 M → rG p l e R s m args below meth c cells slots Qs D aC ad 10 37 [(0, vR 12), (1, vI x1), (2, vI x2), (3, vI x3), (4, vI x4), (6, vI x6), (7, vI x7)] [] M) (hw : w_m_findSlip_B0 Q x1 x2 x3 x4 x6 X37 x7 M) : rG p l e R s m args below meth c cells slots Qs D aC ad 10 37 [(0, vR 12), (1, vI x1), (2, vI x2), (3, vI x3), (4, vI x4), (6, vI x6), (7, vI x7)] [] M := by
  unfold w_m_findSlip_B0 at hw
  refine r_iload hC dX12_findSlip_37 rfl ?_
  refine r_iload hC dX12_findSlip_39 rfl ?_
  obtain ⟨o1, hw⟩ := hw
  obtain ⟨o2, hw⟩ := hw
  obtain ⟨hwt, hwf⟩ := hw
  refine r_icmp_gt hC 159 dX12_findSlip_41 (by decide) o1.1 o1.2 o2.1 o2.2 (fun c3 => ?_) (fun c3 => ?_)
  · have hw := hwt c3
    refine r_aload_n hC dX12_findSlip_159 rfl rfl ?_
    refine r_aload_n hC dX12_findSlip_160 rfl rfl ?_
    refine r_iload_n hC dX12_findSlip_161 rfl rfl ?_
    refine r_iload hC dX12_findSlip_162 rfl ?_
    refine r_callV hC (d_m_above hw) rfl kC12_above km12_345 kI12_above kS12_above kN12 dd_12_above ⟨Nat.le_of_ble_eq_true rfl, Nat.le_of_ble_eq_true rfl⟩ rfl (Nat.le_of_ble_eq_true rfl) dX12_findSlip_164 (fun r M' hp => ?_)
    obtain ⟨rfl, a4, rfl, hw⟩ := hp
    try dsimp only at hw
    refine r_aload_n hC dX12_findSlip_167 rfl rfl ?_
    refine r_iload_n hC dX12_findSlip_168 rfl rfl ?_
    refine r_iload hC dX12_findSlip_169 rfl ?_
    refine r_callV hC (d_m_above hw) rfl kC12_above km12_345 kI12_above kS12_above kN12 dd_12_above ⟨Nat.le_of_ble_eq_true rfl, Nat.le_of_ble_eq_true rfl⟩ rfl (Nat.le_of_ble_eq_true rfl) dX12_findSlip_171 (fun r M' hp => ?_)
    obtain ⟨rfl, a5, rfl, hw⟩ := hp
    try dsimp only at hw
    refine r_isub hC dX12_findSlip_174 ?_
    obtain ⟨o6, hw⟩ := hw
    refine r_i2l hC dX12_findSlip_175 o6.1 o6.2 ?_
    obtain ⟨o7, hw⟩ := hw
    refine r_putJ hC 49 rfl (by decide) kf12_348 rfl rfl o7.1 o7.2 dX12_findSlip_176 ?_
    replace hw := hw _ rfl
    refine r_aload_n hC dX12_findSlip_179 rfl rfl ?_
    refine r_getJ hC 49 rfl (by decide) kf12_348 rfl rfl dX12_findSlip_180 (fun b10 b10' => ?_)
    replace hw := hw _ rfl b10 b10'
    refine r_lconst hC 0 dX12_findSlip_183 (by decide) ?_
    obtain ⟨hwt, hwf⟩ := hw
    refine r_lcmp_le hC 192 dX12_findSlip_184 dX12_findSlip_185 (by decide) (by omega) (by omega) (by decide) (by decide) (fun c13 => ?_) (fun c13 => ?_)
    · have hw := hwt c13
      refine r_iconst hC dX12_findSlip_192 ?_
      exact hQ _ _ _ _ dX12_findSlip_193 (by decide) (by decide) hw
    · have hw := hwf c13
      refine r_iconst hC dX12_findSlip_188 ?_
      refine r_goto hC 193 dX12_findSlip_189 (by decide) ?_
      exact hQ _ _ _ _ dX12_findSlip_193 (by decide) (by decide) hw
  · have hw := hwf c3
    refine r_aload_n hC dX12_findSlip_44 rfl rfl ?_
    refine r_iload hC dX12_findSlip_45 rfl ?_
    refine r_iload hC dX12_findSlip_47 rfl ?_
    refine r_callV hC (d_m_layerAt hw) rfl kC12_layerAt km12_342 kI12_layerAt kS12_layerAt kN12 dd_12_layerAt ⟨Nat.le_of_ble_eq_true rfl, Nat.le_of_ble_eq_true rfl⟩ rfl (Nat.le_of_ble_eq_true rfl) dX12_findSlip_49 (fun r M' hp => ?_)
    obtain ⟨rfl, a16, rfl, hw⟩ := hp
    try dsimp only at hw
    refine r_istore hC dX12_findSlip_52 (by decide) ?_
    refine r_iload hC dX12_findSlip_54 rfl ?_
    obtain ⟨o17, hw⟩ := hw
    obtain ⟨hwt, hwf⟩ := hw
    refine r_if_ge hC 61 dX12_findSlip_56 (by decide) o17.1 o17.2 (fun c19 => ?_) (fun c19 => ?_)
    · have hw := hwt c19
      refine r_aload_n hC dX12_findSlip_61 rfl rfl ?_
      refine r_iload hC dX12_findSlip_62 rfl ?_
      refine r_iconst hC dX12_findSlip_64 ?_
      refine r_callV hC (d_m_choose hw) rfl kC12_choose km12_246 kI12_choose kS12_choose kN12 dd_12_choose ⟨Nat.le_of_ble_eq_true rfl, Nat.le_of_ble_eq_true rfl⟩ rfl (Nat.le_of_ble_eq_true rfl) dX12_findSlip_65 (fun r M' hp => ?_)
      obtain ⟨rfl, hw⟩ := hp
      try dsimp only at hw
      refine r_aload_n hC dX12_findSlip_68 rfl rfl ?_
      refine r_iload hC dX12_findSlip_69 rfl ?_
      refine r_iload_n hC dX12_findSlip_71 rfl rfl ?_
      refine r_callV hC (d_m_runOf hw) rfl kC12_runOf km12_249 kI12_runOf kS12_runOf kN12 dd_12_runOf ⟨Nat.le_of_ble_eq_true rfl, Nat.le_of_ble_eq_true rfl⟩ rfl (Nat.le_of_ble_eq_true rfl) dX12_findSlip_72 (fun r M' hp => ?_)
      obtain ⟨rfl, hw⟩ := hp
      try dsimp only at hw
      refine r_aload_n hC dX12_findSlip_75 rfl rfl ?_
      refine r_iload hC dX12_findSlip_76 rfl ?_
      refine r_iload hC dX12_findSlip_78 rfl ?_
      refine r_callV hC (d_m_hold hw) rfl kC12_hold km12_202 kI12_hold kS12_hold kN12 dd_12_hold ⟨Nat.le_of_ble_eq_true rfl, Nat.le_of_ble_eq_true rfl⟩ rfl (Nat.le_of_ble_eq_true rfl) dX12_findSlip_80 (fun r M' hp => ?_)
      obtain ⟨rfl, a24, rfl, hw⟩ := hp
      try dsimp only at hw
      refine r_sipush hC dX12_findSlip_83 (by decide) ?_
      refine r_aload_n hC dX12_findSlip_86 rfl rfl ?_
      refine r_getR hC 18 rfl (by decide) kf12_59 rfl rfl dX12_findSlip_87 ?_
      refine r_iload hC dX12_findSlip_90 rfl ?_
      obtain ⟨o25, hw⟩ := hw
      refine r_iald hC rfl o25.1 o25.2 (by decide) (by decide) dX12_findSlip_92 (fun b27 b27' => ?_)
      replace hw := hw _ rfl b27 b27'
      refine r_isub hC dX12_findSlip_93 ?_
      refine r_imul hC dX12_findSlip_94 ?_
      refine r_sipush hC dX12_findSlip_95 (by decide) ?_
      obtain ⟨o28, hw⟩ := hw
      refine r_idiv hC dX12_findSlip_98 o28.1 o28.2 (by decide) (by decide) ?_
      refine r_aload_n hC dX12_findSlip_99 rfl rfl ?_
      refine r_getR hC 12 rfl (by decide) kf12_43 rfl rfl dX12_findSlip_100 ?_
      refine r_iconst hC dX12_findSlip_103 ?_
      refine r_aload_n hC dX12_findSlip_104 rfl rfl ?_
      refine r_getR hC 3 rfl (by decide) kf12_19 rfl rfl dX12_findSlip_105 ?_
      refine r_bipush hC dX12_findSlip_108 (by decide) ?_
      refine r_iload hC dX12_findSlip_110 rfl ?_
      refine r_imul hC dX12_findSlip_112 ?_
      refine r_iload hC dX12_findSlip_113 rfl ?_
      refine r_iadd hC dX12_findSlip_115 ?_
      obtain ⟨o29, hw⟩ := hw
      refine r_iald hC rfl o29.1 o29.2 (by decide) (by decide) dX12_findSlip_116 (fun b31 b31' => ?_)
      replace hw := hw _ rfl b31 b31'
      refine r_imul hC dX12_findSlip_117 ?_
      refine r_iconst hC dX12_findSlip_118 ?_
      refine r_iadd hC dX12_findSlip_119 ?_
      refine r_iald hC rfl (by omega) (by omega) (by decide) (by decide) dX12_findSlip_120 (fun b34 b34' => ?_)
      replace hw := hw _ rfl b34 b34'
      refine r_imul hC dX12_findSlip_121 ?_
      refine r_bipush hC dX12_findSlip_122 (by decide) ?_
      obtain ⟨o35, hw⟩ := hw
      refine r_idiv hC dX12_findSlip_124 o35.1 o35.2 (by decide) (by decide) ?_
      refine r_istore hC dX12_findSlip_125 (by decide) ?_
      refine r_aload_n hC dX12_findSlip_127 rfl rfl ?_
      refine r_dup hC dX12_findSlip_128 rfl ?_
      refine r_getJ hC 48 rfl (by decide) kf12_339 rfl rfl dX12_findSlip_129 (fun b37 b37' => ?_)
      replace hw := hw _ rfl b37 b37'
      refine r_aload_n hC dX12_findSlip_132 rfl rfl ?_
      refine r_getR hC 19 rfl (by decide) kf12_62 rfl rfl dX12_findSlip_133 ?_
      refine r_iload hC dX12_findSlip_136 rfl ?_
      obtain ⟨o38, hw⟩ := hw
      refine r_iald hC rfl o38.1 o38.2 (by decide) (by decide) dX12_findSlip_138 (fun b40 b40' => ?_)
      replace hw := hw _ rfl b40 b40'
      obtain ⟨hwt, hwf⟩ := hw
      refine r_if_lt hC 146 dX12_findSlip_139 (by decide) (by omega) (by omega) (fun c43 => ?_) (fun c43 => ?_)
      · have hw := hwt c43
        refine r_iload hC dX12_findSlip_146 rfl ?_
        obtain ⟨o44, hw⟩ := hw
        refine r_i2l hC dX12_findSlip_148 o44.1 o44.2 ?_
        exact r_subk (s_m_findSlip_j1 hC hQ hX37 hw) ⟨rfl, rfl, rfl, rfl, rfl, rfl, rfl, trivial⟩
      · have hw := hwf c43
        refine r_lconst hC 0 dX12_findSlip_142 (by decide) ?_
        refine r_goto hC 149 dX12_findSlip_143 (by decide) ?_
        exact r_subk (s_m_findSlip_j1 hC hQ hX37 hw) ⟨rfl, rfl, rfl, rfl, rfl, rfl, rfl, trivial⟩
    · have hw := hwf c19
      refine r_iconst hC dX12_findSlip_59 ?_
      exact hQ _ _ _ _ dX12_findSlip_60 (by decide) (by decide) hw
def w_m_findSlip_L0 (Q : Int → Mem → Prop) (x1 : Int) (x2 : Int) (x3 : Int) (x4 : Int) (x6 : Int) (x7 : Int) (M : Mem) : Prop :=
  ∀ X : Int → Mem → Prop, (∀ (x7 : Int) (M : Mem), w_m_findSlip_B0 Q x1 x2 x3 x4 x6 X x7 M → X x7 M) → X x7 M
set_option maxRecDepth 100000 in
set_option maxHeartbeats 4000000 in
theorem s_m_findSlip_L0 {Q : Int → Mem → Prop} {x1 : Int} {x2 : Int} {x3 : Int} {x4 : Int} {x6 : Int} {x7 : Int} {M : Mem} (hC : rC p R s m args meth c cells slots D aC ad 10 cX12_findSlip RX12 5 120 (some .boolean)) (hQ : ∀ (pc : Nat) (L : List (Nat × RV)) (z : Int) (M : Mem), decode cX12_findSlip pc = .ok (.ireturn, 1) → 0 ≤ z → z ≤ 1 → Q z M → rG p l e R s m args below meth c cells slots Qs D aC ad 10 pc L [vI z] M) (hw : w_m_findSlip_L0 Q x1 x2 x3 x4 x6 x7 M) : rG p l e R s m args below meth c cells slots Qs D aC ad 10 37 [(0, vR 12), (1, vI x1), (2, vI x2), (3, vI x3), (4, vI x4), (6, vI x6), (7, vI x7)] [] M := by
  unfold w_m_findSlip_L0 at hw
  exact hw (fun x7 M => rG p l e R s m args below meth c cells slots Qs D aC ad 10 37 [(0, vR 12), (1, vI x1), (2, vI x2), (3, vI x3), (4, vI x4), (6, vI x6), (7, vI x7)] [] M) (fun x7 M hb => s_m_findSlip_B0 hC hQ (fun _ _ h => h) hb)
def w_m_findSlip_j0 (Q : Int → Mem → Prop) (x1 : Int) (x2 : Int) (x3 : Int) (x4 : Int) (s0 : Int) (M : Mem) : Prop :=
  (-2147483648 ≤ x2 ∧ x2 ≤ 2147483647) ∧ ((-2147483648 ≤ x3 ∧ x3 ≤ 2147483647) ∧ ((x3 ≤ x2 → w_m_findSlip_L0 Q x1 x2 x3 x4 x2 s0 M) ∧ (¬ (x3 ≤ x2) → w_m_findSlip_L0 Q x1 x2 x3 x4 x3 s0 M)))
set_option maxRecDepth 100000 in
set_option maxHeartbeats 4000000 in
theorem s_m_findSlip_j0 {Q : Int → Mem → Prop} {x1 : Int} {x2 : Int} {x3 : Int} {x4 : Int} {s0 : Int} {M : Mem} (hC : rC p R s m args meth c cells slots D aC ad 10 cX12_findSlip RX12 5 120 (some .boolean)) (hQ : ∀ (pc : Nat) (L : List (Nat × RV)) (z : Int) (M : Mem), decode cX12_findSlip pc = .ok (.ireturn, 1) → 0 ≤ z → z ≤ 1 → Q z M → rG p l e R s m args below meth c cells slots Qs D aC ad 10 pc L [vI z] M) (hw : w_m_findSlip_j0 Q x1 x2 x3 x4 s0 M) : rG p l e R s m args below meth c cells slots Qs D aC ad 10 19 [(0, vR 12), (1, vI x1), (2, vI x2), (3, vI x3), (4, vI x4)] [vI s0] M := by
  unfold w_m_findSlip_j0 at hw
  refine r_istore hC dX12_findSlip_19 (by decide) ?_
  refine r_iload_n hC dX12_findSlip_21 rfl rfl ?_
  refine r_iload_n hC dX12_findSlip_22 rfl rfl ?_
  obtain ⟨o1, hw⟩ := hw
  obtain ⟨o2, hw⟩ := hw
  obtain ⟨hwt, hwf⟩ := hw
  refine r_icmp_ge hC 30 dX12_findSlip_23 (by decide) o1.1 o1.2 o2.1 o2.2 (fun c3 => ?_) (fun c3 => ?_)
  · have hw := hwt c3
    refine r_iload_n hC dX12_findSlip_30 rfl rfl ?_
    refine r_istore hC dX12_findSlip_31 (by decide) ?_
    refine r_iload hC dX12_findSlip_33 rfl ?_
    refine r_istore hC dX12_findSlip_35 (by decide) ?_
    exact r_subk (s_m_findSlip_L0 hC hQ hw) ⟨rfl, rfl, rfl, rfl, rfl, rfl, rfl, trivial⟩
  · have hw := hwf c3
    refine r_iload_n hC dX12_findSlip_26 rfl rfl ?_
    refine r_goto hC 31 dX12_findSlip_27 (by decide) ?_
    refine r_istore hC dX12_findSlip_31 (by decide) ?_
    refine r_iload hC dX12_findSlip_33 rfl ?_
    refine r_istore hC dX12_findSlip_35 (by decide) ?_
    exact r_subk (s_m_findSlip_L0 hC hQ hw) ⟨rfl, rfl, rfl, rfl, rfl, rfl, rfl, trivial⟩
def w_m_findSlip (M : Mem) (x1 : Int) (x2 : Int) (x3 : Int) (x4 : Int) (Q : Int → Mem → Prop) : Prop :=
  w_m_plain M (fun M2 => ∀ M4 : Mem, M4 = mset M2 12 48 0 → (-2147483648 ≤ x2 ∧ x2 ≤ 2147483647) ∧ ((-2147483648 ≤ x3 ∧ x3 ≤ 2147483647) ∧ ((x3 ≤ x2 → w_m_findSlip_j0 Q x1 x2 x3 x4 x3 M4) ∧ (¬ (x3 ≤ x2) → w_m_findSlip_j0 Q x1 x2 x3 x4 x2 M4))))
set_option maxRecDepth 100000 in
set_option maxHeartbeats 4000000 in
theorem s_m_findSlip {M : Mem} {x1 : Int} {x2 : Int} {x3 : Int} {x4 : Int} {Q : Int → Mem → Prop} (hC : rC p R s m args meth c cells slots D aC ad 10 cX12_findSlip RX12 5 120 (some .boolean)) (hQ : ∀ (pc : Nat) (L : List (Nat × RV)) (z : Int) (M : Mem), decode cX12_findSlip pc = .ok (.ireturn, 1) → 0 ≤ z → z ≤ 1 → Q z M → rG p l e R s m args below meth c cells slots Qs D aC ad 10 pc L [vI z] M) (hw : w_m_findSlip M x1 x2 x3 x4 Q) : rG p l e R s m args below meth c cells slots Qs D aC ad 10 0 [(0, vR 12), (1, vI x1), (2, vI x2), (3, vI x3), (4, vI x4)] [] M := by
  unfold w_m_findSlip at hw
  refine r_aload_n hC dX12_findSlip_0 rfl rfl ?_
  refine r_callV hC (d_m_plain hw) rfl kC12_plain km12_243 kI12_plain kS12_plain kN12 dd_12_plain ⟨Nat.le_of_ble_eq_true rfl, Nat.le_of_ble_eq_true rfl⟩ rfl (Nat.le_of_ble_eq_true rfl) dX12_findSlip_1 (fun r M' hp => ?_)
  obtain ⟨rfl, hw⟩ := hp
  try dsimp only at hw
  refine r_aload_n hC dX12_findSlip_4 rfl rfl ?_
  refine r_lconst hC 0 dX12_findSlip_5 (by decide) ?_
  refine r_putJ hC 48 rfl (by decide) kf12_339 rfl rfl (by decide) (by decide) dX12_findSlip_6 ?_
  replace hw := hw _ rfl
  refine r_iload_n hC dX12_findSlip_9 rfl rfl ?_
  refine r_iload_n hC dX12_findSlip_10 rfl rfl ?_
  obtain ⟨o5, hw⟩ := hw
  obtain ⟨o6, hw⟩ := hw
  obtain ⟨hwt, hwf⟩ := hw
  refine r_icmp_ge hC 18 dX12_findSlip_11 (by decide) o5.1 o5.2 o6.1 o6.2 (fun c7 => ?_) (fun c7 => ?_)
  · have hw := hwt c7
    refine r_iload_n hC dX12_findSlip_18 rfl rfl ?_
    exact r_subk (s_m_findSlip_j0 hC hQ hw) ⟨rfl, rfl, rfl, rfl, rfl, trivial⟩
  · have hw := hwf c7
    refine r_iload_n hC dX12_findSlip_14 rfl rfl ?_
    refine r_goto hC 19 dX12_findSlip_15 (by decide) ?_
    exact r_subk (s_m_findSlip_j0 hC hQ hw) ⟨rfl, rfl, rfl, rfl, rfl, trivial⟩
set_option maxRecDepth 100000 in
set_option maxHeartbeats 4000000 in
theorem d_m_findSlip {l : Launch} {D : va_G} {aC : Nat → ClassId} {ad : Nat → Nat} {M : Mem} {x1 : Int} {x2 : Int} {x3 : Int} {x4 : Int} {Q : Int → Mem → Prop} (hw : w_m_findSlip M x1 x2 x3 x4 Q) : Does l D aC ad yX12_findSlip cX12_findSlip 10 (some .boolean) 5 120 [vR 12, vI x1, vI x2, vI x3, vI x4] M (pI Q) :=
  Does.of (by decide) (Nat.le_of_ble_eq_true rfl) (fun p e R s m args below meth c hC => r_subk (s_m_findSlip hC (fun pc L z M d z1 z2 h => r_zret hC d z1 z2 ⟨z, rfl, h⟩) hw) ⟨rfl, rfl, rfl, rfl, rfl, trivial⟩)
theorem dd_12_findSlip : yX12_findSlip.cls ≠ "java/lang/invoke/MethodHandle" ∧ yX12_findSlip.cls ≠ "java/lang/invoke/VarHandle" ∧ (parseMethodDescriptor yX12_findSlip.desc).map (fun d => d.parameters.length) = some 4 := by decide +kernel
theorem dd_12_middle : yX12_middle.cls ≠ "java/lang/invoke/MethodHandle" ∧ yX12_middle.cls ≠ "java/lang/invoke/VarHandle" ∧ (parseMethodDescriptor yX12_middle.desc).map (fun d => d.parameters.length) = some 2 := by decide +kernel
/-- SoupSandModel.margin -/
def w_m_margin (M : Mem) (x1 : Int) (x2 : Int) (x3 : Int) (x4 : Int) (x5 : Int) (Q : Int → Mem → Prop) : Prop :=
  w_m_isShake M x1 (fun a1 => (-2147483648 ≤ a1 ∧ a1 ≤ 2147483647) ∧ ((a1 = 0 → Q (-1001) M) ∧ (¬ (a1 = 0) → w_m_isLayer M x2 x4 (fun a5 => (-2147483648 ≤ a5 ∧ a5 ≤ 2147483647) ∧ ((a5 = 0 → Q (-1001) M) ∧ (¬ (a5 = 0) → w_m_isColumn M x3 (fun a9 => (-2147483648 ≤ a9 ∧ a9 ≤ 2147483647) ∧ ((¬ (a9 = 0) → (-2147483648 ≤ x5 ∧ x5 ≤ 2147483647) ∧ (w_m_in M x5 0 2 (fun a14 => (-2147483648 ≤ a14 ∧ a14 ≤ 2147483647) ∧ ((a14 = 0 → Q (-1002) M) ∧ (¬ (a14 = 0) → (-2147483648 ≤ x2 ∧ x2 ≤ 2147483647) ∧ ((-2147483648 ≤ x3 ∧ x3 ≤ 2147483647) ∧ ((¬ (x2 = x3) → w_m_middle M x2 x4 (fun a21 => (-2147483648 ≤ x5 ∧ x5 ≤ 2147483647) ∧ ((¬ (x5 = 2) → w_m_findSlip M x1 x2 x3 a21 (fun a25 M26 => (-2147483648 ≤ a25 ∧ a25 ≤ 2147483647) ∧ ((¬ (a25 = 0) → ∀ a30 : Int, a30 = M26 12 48 → -1125899906842624 ≤ a30 → a30 ≤ 1125899906842624 → ∀ a32 : Int, a32 = M26 12 49 → -1125899906842624 ≤ a32 → a32 ≤ 1125899906842624 → w_m_gcd M26 a30 a32 (fun a34 => (-2147483648 ≤ x5 ∧ x5 ≤ 2147483647) ∧ ((¬ (x5 = 0) → ∀ a38 : Int, a38 = M26 12 49 → -1125899906842624 ≤ a38 → a38 ≤ 1125899906842624 → ((0 ≤ a38 ∧ a38 ≤ 9223372036854775807) ∧ (0 < a34 ∧ a34 ≤ 9223372036854775807)) ∧ (Q (a38 / a34) M26)) ∧ (x5 = 0 → ∀ a41 : Int, a41 = M26 12 48 → -1125899906842624 ≤ a41 → a41 ≤ 1125899906842624 → ((0 ≤ a41 ∧ a41 ≤ 9223372036854775807) ∧ (0 < a34 ∧ a34 ≤ 9223372036854775807)) ∧ (Q (a41 / a34) M26))))) ∧ (a25 = 0 → Q (-1003) M26)))) ∧ (x5 = 2 → (-2147483648 ≤ a21 ∧ a21 ≤ 2147483647) ∧ (Q a21 M))))) ∧ (x2 = x3 → Q (-1002) M)))))))) ∧ (a9 = 0 → Q (-1001) M)))))))))
set_option maxRecDepth 100000 in
set_option maxHeartbeats 4000000 in
theorem s_m_margin {M : Mem} {x1 : Int} {x2 : Int} {x3 : Int} {x4 : Int} {x5 : Int} {Q : Int → Mem → Prop} (hC : rC p R s m args meth c cells slots D aC ad 9 cX12_margin RX12 6 149 (some .long)) (hQ : ∀ (pc : Nat) (L : List (Nat × RV)) (z : Int) (M : Mem), decode cX12_margin pc = .ok (.lreturn, 1) → Q z M → rG p l e R s m args below meth c cells slots Qs D aC ad 9 pc L [vJ z] M) (hw : w_m_margin M x1 x2 x3 x4 x5 Q) : rG p l e R s m args below meth c cells slots Qs D aC ad 9 0 [(0, vR 12), (1, vI x1), (2, vI x2), (3, vI x3), (4, vI x4), (5, vI x5)] [] M := by
  unfold w_m_margin at hw
  refine r_aload_n hC dX12_margin_0 rfl rfl ?_
  refine r_iload_n hC dX12_margin_1 rfl rfl ?_
  refine r_callV hC (d_m_isShake hw) rfl kC12_isShake km12_207 kI12_isShake kS12_isShake kN12 dd_12_isShake ⟨Nat.le_of_ble_eq_true rfl, Nat.le_of_ble_eq_true rfl⟩ rfl (Nat.le_of_ble_eq_true rfl) dX12_margin_2 (fun r M' hp => ?_)
  obtain ⟨rfl, a1, rfl, hw⟩ := hp
  try dsimp only at hw
  obtain ⟨o2, hw⟩ := hw
  obtain ⟨hwt, hwf⟩ := hw
  refine r_if_eq hC 25 dX12_margin_5 (by decide) o2.1 o2.2 (fun c4 => ?_) (fun c4 => ?_)
  · have hw := hwt c4
    refine r_ldc2 hC (-1001) dX12_margin_25 kL12_306 (by decide) ?_
    exact hQ _ _ _ _ dX12_margin_28 hw
  · have hw := hwf c4
    refine r_aload_n hC dX12_margin_8 rfl rfl ?_
    refine r_iload_n hC dX12_margin_9 rfl rfl ?_
    refine r_iload hC dX12_margin_10 rfl ?_
    refine r_callV hC (d_m_isLayer hw) rfl kC12_isLayer km12_186 kI12_isLayer kS12_isLayer kN12 dd_12_isLayer ⟨Nat.le_of_ble_eq_true rfl, Nat.le_of_ble_eq_true rfl⟩ rfl (Nat.le_of_ble_eq_true rfl) dX12_margin_12 (fun r M' hp => ?_)
    obtain ⟨rfl, a5, rfl, hw⟩ := hp
    try dsimp only at hw
    obtain ⟨o6, hw⟩ := hw
    obtain ⟨hwt, hwf⟩ := hw
    refine r_if_eq hC 25 dX12_margin_15 (by decide) o6.1 o6.2 (fun c8 => ?_) (fun c8 => ?_)
    · have hw := hwt c8
      refine r_ldc2 hC (-1001) dX12_margin_25 kL12_306 (by decide) ?_
      exact hQ _ _ _ _ dX12_margin_28 hw
    · have hw := hwf c8
      refine r_iload_n hC dX12_margin_18 rfl rfl ?_
      refine r_callS hC (d_m_isColumn hw) kC12_isColumn km12_169 kT12_isColumn kN12 dd_12_isColumn ⟨Nat.le_of_ble_eq_true rfl, Nat.le_of_ble_eq_true rfl⟩ rfl (Nat.le_of_ble_eq_true rfl) dX12_margin_19 (fun r M' hp => ?_)
      obtain ⟨rfl, a9, rfl, hw⟩ := hp
      try dsimp only at hw
      obtain ⟨o10, hw⟩ := hw
      obtain ⟨hwt, hwf⟩ := hw
      refine r_if_ne hC 29 dX12_margin_22 (by decide) o10.1 o10.2 (fun c12 => ?_) (fun c12 => ?_)
      · have hw := hwt c12
        refine r_iload hC dX12_margin_29 rfl ?_
        obtain ⟨o13, hw⟩ := hw
        refine r_i2l hC dX12_margin_31 o13.1 o13.2 ?_
        refine r_lconst hC 0 dX12_margin_32 (by decide) ?_
        refine r_ldc2 hC (2) dX12_margin_33 kL12_252 (by decide) ?_
        refine r_callS hC (d_m_in hw) kC12_in km12_165 kT12_in kN12 dd_12_in ⟨Nat.le_of_ble_eq_true rfl, Nat.le_of_ble_eq_true rfl⟩ rfl (Nat.le_of_ble_eq_true rfl) dX12_margin_36 (fun r M' hp => ?_)
        obtain ⟨rfl, a14, rfl, hw⟩ := hp
        try dsimp only at hw
        obtain ⟨o15, hw⟩ := hw
        obtain ⟨hwt, hwf⟩ := hw
        refine r_if_eq hC 47 dX12_margin_39 (by decide) o15.1 o15.2 (fun c17 => ?_) (fun c17 => ?_)
        · have hw := hwt c17
          refine r_ldc2 hC (-1002) dX12_margin_47 kL12_308 (by decide) ?_
          exact hQ _ _ _ _ dX12_margin_50 hw
        · have hw := hwf c17
          refine r_iload_n hC dX12_margin_42 rfl rfl ?_
          refine r_iload_n hC dX12_margin_43 rfl rfl ?_
          obtain ⟨o18, hw⟩ := hw
          obtain ⟨o19, hw⟩ := hw
          obtain ⟨hwt, hwf⟩ := hw
          refine r_icmp_ne hC 51 dX12_margin_44 (by decide) o18.1 o18.2 o19.1 o19.2 (fun c20 => ?_) (fun c20 => ?_)
          · have hw := hwt c20
            refine r_aload_n hC dX12_margin_51 rfl rfl ?_
            refine r_iload_n hC dX12_margin_52 rfl rfl ?_
            refine r_iload hC dX12_margin_53 rfl ?_
            refine r_callV hC (d_m_middle hw) rfl kC12_middle km12_351 kI12_middle kS12_middle kN12 dd_12_middle ⟨Nat.le_of_ble_eq_true rfl, Nat.le_of_ble_eq_true rfl⟩ rfl (Nat.le_of_ble_eq_true rfl) dX12_margin_55 (fun r M' hp => ?_)
            obtain ⟨rfl, a21, rfl, hw⟩ := hp
            try dsimp only at hw
            refine r_istore hC dX12_margin_58 (by decide) ?_
            refine r_iload hC dX12_margin_60 rfl ?_
            refine r_iconst hC dX12_margin_62 ?_
            obtain ⟨o22, hw⟩ := hw
            obtain ⟨hwt, hwf⟩ := hw
            refine r_icmp_ne hC 70 dX12_margin_63 (by decide) o22.1 o22.2 (by decide) (by decide) (fun c24 => ?_) (fun c24 => ?_)
            · have hw := hwt c24
              refine r_aload_n hC dX12_margin_70 rfl rfl ?_
              refine r_iload_n hC dX12_margin_71 rfl rfl ?_
              refine r_iload_n hC dX12_margin_72 rfl rfl ?_
              refine r_iload_n hC dX12_margin_73 rfl rfl ?_
              refine r_iload hC dX12_margin_74 rfl ?_
              refine r_callV hC (d_m_findSlip hw) rfl kC12_findSlip km12_354 kI12_findSlip kS12_findSlip kN12 dd_12_findSlip ⟨Nat.le_of_ble_eq_true rfl, Nat.le_of_ble_eq_true rfl⟩ rfl (Nat.le_of_ble_eq_true rfl) dX12_margin_76 (fun r M' hp => ?_)
              obtain ⟨a25, rfl, hw⟩ := hp
              try dsimp only at hw
              obtain ⟨o27, hw⟩ := hw
              obtain ⟨hwt, hwf⟩ := hw
              refine r_if_ne hC 86 dX12_margin_79 (by decide) o27.1 o27.2 (fun c29 => ?_) (fun c29 => ?_)
              · have hw := hwt c29
                refine r_aload_n hC dX12_margin_86 rfl rfl ?_
                refine r_getJ hC 48 rfl (by decide) kf12_339 rfl rfl dX12_margin_87 (fun b31 b31' => ?_)
                replace hw := hw _ rfl b31 b31'
                refine r_aload_n hC dX12_margin_90 rfl rfl ?_
                refine r_getJ hC 49 rfl (by decide) kf12_348 rfl rfl dX12_margin_91 (fun b33 b33' => ?_)
                replace hw := hw _ rfl b33 b33'
                refine r_callS hC (d_m_gcd hw) kC12_gcd km12_291 kT12_gcd kN12 dd_12_gcd ⟨Nat.le_of_ble_eq_true rfl, Nat.le_of_ble_eq_true rfl⟩ rfl (Nat.le_of_ble_eq_true rfl) dX12_margin_94 (fun r M' hp => ?_)
                obtain ⟨rfl, a34, rfl, hw⟩ := hp
                try dsimp only at hw
                refine r_lstore hC dX12_margin_97 (by decide) ?_
                refine r_iload hC dX12_margin_99 rfl ?_
                obtain ⟨o35, hw⟩ := hw
                obtain ⟨hwt, hwf⟩ := hw
                refine r_if_ne hC 114 dX12_margin_101 (by decide) o35.1 o35.2 (fun c37 => ?_) (fun c37 => ?_)
                · have hw := hwt c37
                  refine r_aload_n hC dX12_margin_114 rfl rfl ?_
                  refine r_getJ hC 49 rfl (by decide) kf12_348 rfl rfl dX12_margin_115 (fun b39 b39' => ?_)
                  replace hw := hw _ rfl b39 b39'
                  refine r_lload hC dX12_margin_118 rfl ?_
                  obtain ⟨o40, hw⟩ := hw
                  refine r_ldiv hC dX12_margin_120 o40.1.1 o40.1.2 o40.2.1 o40.2.2 ?_
                  exact hQ _ _ _ _ dX12_margin_121 hw
                · have hw := hwf c37
                  refine r_aload_n hC dX12_margin_104 rfl rfl ?_
                  refine r_getJ hC 48 rfl (by decide) kf12_339 rfl rfl dX12_margin_105 (fun b42 b42' => ?_)
                  replace hw := hw _ rfl b42 b42'
                  refine r_lload hC dX12_margin_108 rfl ?_
                  obtain ⟨o43, hw⟩ := hw
                  refine r_ldiv hC dX12_margin_110 o43.1.1 o43.1.2 o43.2.1 o43.2.2 ?_
                  refine r_goto hC 121 dX12_margin_111 (by decide) ?_
                  exact hQ _ _ _ _ dX12_margin_121 hw
              · have hw := hwf c29
                refine r_ldc2 hC (-1003) dX12_margin_82 kL12_358 (by decide) ?_
                exact hQ _ _ _ _ dX12_margin_85 hw
            · have hw := hwf c24
              refine r_iload hC dX12_margin_66 rfl ?_
              obtain ⟨o44, hw⟩ := hw
              refine r_i2l hC dX12_margin_68 o44.1 o44.2 ?_
              exact hQ _ _ _ _ dX12_margin_69 hw
          · have hw := hwf c20
            refine r_ldc2 hC (-1002) dX12_margin_47 kL12_308 (by decide) ?_
            exact hQ _ _ _ _ dX12_margin_50 hw
      · have hw := hwf c12
        refine r_ldc2 hC (-1001) dX12_margin_25 kL12_306 (by decide) ?_
        exact hQ _ _ _ _ dX12_margin_28 hw
set_option maxRecDepth 100000 in
set_option maxHeartbeats 4000000 in
theorem d_m_margin {l : Launch} {D : va_G} {aC : Nat → ClassId} {ad : Nat → Nat} {M : Mem} {x1 : Int} {x2 : Int} {x3 : Int} {x4 : Int} {x5 : Int} {Q : Int → Mem → Prop} (hw : w_m_margin M x1 x2 x3 x4 x5 Q) : Does l D aC ad yX12_margin cX12_margin 9 (some .long) 6 149 [vR 12, vI x1, vI x2, vI x3, vI x4, vI x5] M (pJ Q) :=
  Does.of (by decide) (Nat.le_of_ble_eq_true rfl) (fun p e R s m args below meth c hC => r_subk (s_m_margin hC (fun pc L z M d h => r_lret hC d ⟨z, rfl, h⟩) hw) ⟨rfl, rfl, rfl, rfl, rfl, rfl, trivial⟩)
/-- SoupSandModel.least -/
def w_m_least_j0 (Q : Int → Mem → Prop) (X45 : Int → Int → Int → Int → Int → Int → Mem → Prop) (X55 : Int → Int → Int → Int → Int → Int → Mem → Prop) (X65 : Int → Int → Int → Int → Int → Int → Mem → Prop) (x1 : Int) (x2 : Int) (x10 : Int) (x11 : Int) (x12 : Int) (M : Mem) : Prop :=
  ∀ a1 : Int, a1 = M 12 48 → -1125899906842624 ≤ a1 → a1 ≤ 1125899906842624 → ∀ a3 : Int, a3 = M 12 49 → -1125899906842624 ≤ a3 → a3 ≤ 1125899906842624 → X65 x10 x11 x12 a1 a3 (x12 + 1) M
set_option maxRecDepth 100000 in
set_option maxHeartbeats 4000000 in
theorem s_m_least_j0 {Q : Int → Mem → Prop} {X45 : Int → Int → Int → Int → Int → Int → Mem → Prop} {X55 : Int → Int → Int → Int → Int → Int → Mem → Prop} {X65 : Int → Int → Int → Int → Int → Int → Mem → Prop} {x1 : Int} {x2 : Int} {x10 : Int} {x11 : Int} {x12 : Int} {M : Mem} (hC : rC p R s m args meth c cells slots D aC ad 14 cX12_least RX12 6 149 (some .long)) (hQ : ∀ (pc : Nat) (L : List (Nat × RV)) (z : Int) (M : Mem), decode cX12_least pc = .ok (.lreturn, 1) → Q z M → rG p l e R s m args below meth c cells slots Qs D aC ad 14 pc L [vJ z] M) (hX45 : ∀ (x3 : Int) (x4 : Int) (x5 : Int) (x6 : Int) (x8 : Int) (x10 : Int) (M : Mem), X45 x3 x4 x5 x6 x8 x10 M → rG p l e R s m args below meth c cells slots Qs D aC ad 14 45 [(0, vR 12), (1, vI x1), (2, vI x2), (3, vI x3), (4, vI x4), (5, vI x5), (6, vJ x6), (8, vJ x8), (10, vI x10)] [] M) (hX55 : ∀ (x3 : Int) (x4 : Int) (x5 : Int) (x6 : Int) (x8 : Int) (x11 : Int) (M : Mem), X55 x3 x4 x5 x6 x8 x11 M → rG p l e R s m args below meth c cells slots Qs D aC ad 14 55 [(0, vR 12), (1, vI x1), (2, vI x2), (3, vI x3), (4, vI x4), (5, vI x5), (6, vJ x6), (8, vJ x8), (10, vI x10), (11, vI x11)] [] M) (hX65 : ∀ (x3 : Int) (x4 : Int) (x5 : Int) (x6 : Int) (x8 : Int) (x12 : Int) (M : Mem), X65 x3 x4 x5 x6 x8 x12 M → rG p l e R s m args below meth c cells slots Qs D aC ad 14 65 [(0, vR 12), (1, vI x1), (2, vI x2), (3, vI x3), (4, vI x4), (5, vI x5), (6, vJ x6), (8, vJ x8), (10, vI x10), (11, vI x11), (12, vI x12)] [] M) (hw : w_m_least_j0 Q X45 X55 X65 x1 x2 x10 x11 x12 M) : rG p l e R s m args below meth c cells slots Qs D aC ad 14 130 [(0, vR 12), (1, vI x1), (2, vI x2), (10, vI x10), (11, vI x11), (12, vI x12)] [] M := by
  unfold w_m_least_j0 at hw
  refine r_iload hC dX12_least_130 rfl ?_
  refine r_istore_n hC dX12_least_132 rfl (by decide) ?_
  refine r_iload hC dX12_least_133 rfl ?_
  refine r_istore hC dX12_least_135 (by decide) ?_
  refine r_iload hC dX12_least_137 rfl ?_
  refine r_istore hC dX12_least_139 (by decide) ?_
  refine r_aload_n hC dX12_least_141 rfl rfl ?_
  refine r_getJ hC 48 rfl (by decide) kf12_339 rfl rfl dX12_least_142 (fun b2 b2' => ?_)
  replace hw := hw _ rfl b2 b2'
  refine r_lstore hC dX12_least_145 (by decide) ?_
  refine r_aload_n hC dX12_least_147 rfl rfl ?_
  refine r_getJ hC 49 rfl (by decide) kf12_348 rfl rfl dX12_least_148 (fun b4 b4' => ?_)
  replace hw := hw _ rfl b4 b4'
  refine r_lstore hC dX12_least_151 (by decide) ?_
  refine r_iinc hC dX12_least_153 rfl (by decide) ?_
  refine r_goto hC 65 dX12_least_156 (by decide) ?_
  exact r_subk (hX65 _ _ _ _ _ _ _ hw) ⟨rfl, rfl, rfl, rfl, rfl, rfl, rfl, rfl, rfl, rfl, rfl, trivial⟩
def w_m_least_B2 (Q : Int → Mem → Prop) (X45 : Int → Int → Int → Int → Int → Int → Mem → Prop) (X55 : Int → Int → Int → Int → Int → Int → Mem → Prop) (x1 : Int) (x2 : Int) (x10 : Int) (x11 : Int) (X65 : Int → Int → Int → Int → Int → Int → Mem → Prop) (x3 : Int) (x4 : Int) (x5 : Int) (x6 : Int) (x8 : Int) (x12 : Int) (M : Mem) : Prop :=
  (0 ≤ x10 ∧ x10 < 6) ∧ (∀ a2 : Int, a2 = M 55 x10 → 0 ≤ a2 → a2 ≤ 6 → (-2147483648 ≤ x12 ∧ x12 ≤ 2147483647) ∧ ((a2 ≤ x12 → X55 x3 x4 x5 x6 x8 (x11 + 1) M) ∧ (¬ (a2 ≤ x12) → (-2147483648 ≤ x10 ∧ x10 ≤ 2147483647) ∧ ((-2147483648 ≤ x11 ∧ x11 ≤ 2147483647) ∧ ((x10 = x11 → X55 x3 x4 x5 x6 x8 (x11 + 1) M) ∧ (¬ (x10 = x11) → w_m_middle M x10 x12 (fun a10 => w_m_findSlip M x1 x10 x11 a10 (fun a11 M12 => (-2147483648 ≤ a11 ∧ a11 ≤ 2147483647) ∧ ((a11 = 0 → X65 x3 x4 x5 x6 x8 (x12 + 1) M12) ∧ (¬ (a11 = 0) → (-2147483648 ≤ x3 ∧ x3 ≤ 2147483647) ∧ ((x3 < 0 → w_m_least_j0 Q X45 X55 X65 x1 x2 x10 x11 x12 M12) ∧ (¬ (x3 < 0) → ∀ a19 : Int, a19 = M12 12 48 → -1125899906842624 ≤ a19 → a19 ≤ 1125899906842624 → ∀ a21 : Int, a21 = M12 12 49 → -1125899906842624 ≤ a21 → a21 ≤ 1125899906842624 → (-9223372036854775808 ≤ a19 * x8 ∧ a19 * x8 ≤ 9223372036854775807) ∧ ((-9223372036854775808 ≤ x6 * a21 ∧ x6 * a21 ≤ 9223372036854775807) ∧ ((x6 * a21 ≤ a19 * x8 → X65 x3 x4 x5 x6 x8 (x12 + 1) M12) ∧ (¬ (x6 * a21 ≤ a19 * x8) → w_m_least_j0 Q X45 X55 X65 x1 x2 x10 x11 x12 M12)))))))))))))))
set_option maxRecDepth 100000 in
set_option maxHeartbeats 4000000 in
theorem s_m_least_B2 {Q : Int → Mem → Prop} {X45 : Int → Int → Int → Int → Int → Int → Mem → Prop} {X55 : Int → Int → Int → Int → Int → Int → Mem → Prop} {x1 : Int} {x2 : Int} {x10 : Int} {x11 : Int} {X65 : Int → Int → Int → Int → Int → Int → Mem → Prop} {x3 : Int} {x4 : Int} {x5 : Int} {x6 : Int} {x8 : Int} {x12 : Int} {M : Mem} (hC : rC p R s m args meth c cells slots D aC ad 14 cX12_least RX12 6 149 (some .long)) (hQ : ∀ (pc : Nat) (L : List (Nat × RV)) (z : Int) (M : Mem), decode cX12_least pc = .ok (.lreturn, 1) → Q z M → rG p l e R s m args below meth c cells slots Qs D aC ad 14 pc L [vJ z] M) (hX45 : ∀ (x3 : Int) (x4 : Int) (x5 : Int) (x6 : Int) (x8 : Int) (x10 : Int) (M : Mem), X45 x3 x4 x5 x6 x8 x10 M → rG p l e R s m args below meth c cells slots Qs D aC ad 14 45 [(0, vR 12), (1, vI x1), (2, vI x2), (3, vI x3), (4, vI x4), (5, vI x5), (6, vJ x6), (8, vJ x8), (10, vI x10)] [] M) (hX55 : ∀ (x3 : Int) (x4 : Int) (x5 : Int) (x6 : Int) (x8 : Int) (x11 : Int) (M : Mem), X55 x3 x4 x5 x6 x8 x11 M → rG p l e R s m args below meth c cells slots Qs D aC ad 14 55 [(0, vR 12), (1, vI x1), (2, vI x2), (3, vI x3), (4, vI x4), (5, vI x5), (6, vJ x6), (8, vJ x8), (10, vI x10), (11, vI x11)] [] M) (hX65 : ∀ (x3 : Int) (x4 : Int) (x5 : Int) (x6 : Int) (x8 : Int) (x12 : Int) (M : Mem), X65 x3 x4 x5 x6 x8 x12 M → rG p l e R s m args below meth c cells slots Qs D aC ad 14 65 [(0, vR 12), (1, vI x1), (2, vI x2), (3, vI x3), (4, vI x4), (5, vI x5), (6, vJ x6), (8, vJ x8), (10, vI x10), (11, vI x11), (12, vI x12)] [] M) (hw : w_m_least_B2 Q X45 X55 x1 x2 x10 x11 X65 x3 x4 x5 x6 x8 x12 M) : rG p l e R s m args below meth c cells slots Qs D aC ad 14 65 [(0, vR 12), (1, vI x1), (2, vI x2), (3, vI x3), (4, vI x4), (5, vI x5), (6, vJ x6), (8, vJ x8), (10, vI x10), (11, vI x11), (12, vI x12)] [] M := by
  unfold w_m_least_B2 at hw
  refine r_iload hC dX12_least_65 rfl ?_
  refine r_aload_n hC dX12_least_67 rfl rfl ?_
  refine r_getR hC 2 rfl (by decide) kf12_16 rfl rfl dX12_least_68 ?_
  refine r_iload hC dX12_least_71 rfl ?_
  obtain ⟨o1, hw⟩ := hw
  refine r_iald hC rfl o1.1 o1.2 (by decide) (by decide) dX12_least_73 (fun b3 b3' => ?_)
  replace hw := hw _ rfl b3 b3'
  obtain ⟨o4, hw⟩ := hw
  obtain ⟨hwt, hwf⟩ := hw
  refine r_icmp_ge hC 159 dX12_least_74 (by decide) o4.1 o4.2 (by omega) (by omega) (fun c6 => ?_) (fun c6 => ?_)
  · have hw := hwt c6
    refine r_iinc hC dX12_least_159 rfl (by decide) ?_
    refine r_goto hC 55 dX12_least_162 (by decide) ?_
    exact r_subk (hX55 _ _ _ _ _ _ _ hw) ⟨rfl, rfl, rfl, rfl, rfl, rfl, rfl, rfl, rfl, rfl, trivial⟩
  · have hw := hwf c6
    refine r_iload hC dX12_least_77 rfl ?_
    refine r_iload hC dX12_least_79 rfl ?_
    obtain ⟨o7, hw⟩ := hw
    obtain ⟨o8, hw⟩ := hw
    obtain ⟨hwt, hwf⟩ := hw
    refine r_icmp_eq hC 159 dX12_least_81 (by decide) o7.1 o7.2 o8.1 o8.2 (fun c9 => ?_) (fun c9 => ?_)
    · have hw := hwt c9
      refine r_iinc hC dX12_least_159 rfl (by decide) ?_
      refine r_goto hC 55 dX12_least_162 (by decide) ?_
      exact r_subk (hX55 _ _ _ _ _ _ _ hw) ⟨rfl, rfl, rfl, rfl, rfl, rfl, rfl, rfl, rfl, rfl, trivial⟩
    · have hw := hwf c9
      refine r_aload_n hC dX12_least_84 rfl rfl ?_
      refine r_iload_n hC dX12_least_85 rfl rfl ?_
      refine r_iload hC dX12_least_86 rfl ?_
      refine r_iload hC dX12_least_88 rfl ?_
      refine r_aload_n hC dX12_least_90 rfl rfl ?_
      refine r_iload hC dX12_least_91 rfl ?_
      refine r_iload hC dX12_least_93 rfl ?_
      refine r_callV hC (d_m_middle hw) rfl kC12_middle km12_351 kI12_middle kS12_middle kN12 dd_12_middle ⟨Nat.le_of_ble_eq_true rfl, Nat.le_of_ble_eq_true rfl⟩ rfl (Nat.le_of_ble_eq_true rfl) dX12_least_95 (fun r M' hp => ?_)
      obtain ⟨rfl, a10, rfl, hw⟩ := hp
      try dsimp only at hw
      refine r_callV hC (d_m_findSlip hw) rfl kC12_findSlip km12_354 kI12_findSlip kS12_findSlip kN12 dd_12_findSlip ⟨Nat.le_of_ble_eq_true rfl, Nat.le_of_ble_eq_true rfl⟩ rfl (Nat.le_of_ble_eq_true rfl) dX12_least_98 (fun r M' hp => ?_)
      obtain ⟨a11, rfl, hw⟩ := hp
      try dsimp only at hw
      refine r_istore hC dX12_least_101 (by decide) ?_
      refine r_iload hC dX12_least_103 rfl ?_
      obtain ⟨o13, hw⟩ := hw
      obtain ⟨hwt, hwf⟩ := hw
      refine r_if_eq hC 153 dX12_least_105 (by decide) o13.1 o13.2 (fun c15 => ?_) (fun c15 => ?_)
      · have hw := hwt c15
        refine r_iinc hC dX12_least_153 rfl (by decide) ?_
        refine r_goto hC 65 dX12_least_156 (by decide) ?_
        exact r_subk (hX65 _ _ _ _ _ _ _ hw) ⟨rfl, rfl, rfl, rfl, rfl, rfl, rfl, rfl, rfl, rfl, rfl, trivial⟩
      · have hw := hwf c15
        refine r_iload_n hC dX12_least_108 rfl rfl ?_
        obtain ⟨o16, hw⟩ := hw
        obtain ⟨hwt, hwf⟩ := hw
        refine r_if_lt hC 130 dX12_least_109 (by decide) o16.1 o16.2 (fun c18 => ?_) (fun c18 => ?_)
        · have hw := hwt c18
          exact r_subk (s_m_least_j0 hC hQ hX45 hX55 hX65 hw) ⟨rfl, rfl, rfl, rfl, rfl, rfl, trivial⟩
        · have hw := hwf c18
          refine r_aload_n hC dX12_least_112 rfl rfl ?_
          refine r_getJ hC 48 rfl (by decide) kf12_339 rfl rfl dX12_least_113 (fun b20 b20' => ?_)
          replace hw := hw _ rfl b20 b20'
          refine r_lload hC dX12_least_116 rfl ?_
          refine r_lmul hC dX12_least_118 ?_
          refine r_lload hC dX12_least_119 rfl ?_
          refine r_aload_n hC dX12_least_121 rfl rfl ?_
          refine r_getJ hC 49 rfl (by decide) kf12_348 rfl rfl dX12_least_122 (fun b22 b22' => ?_)
          replace hw := hw _ rfl b22 b22'
          refine r_lmul hC dX12_least_125 ?_
          obtain ⟨o23, hw⟩ := hw
          obtain ⟨o24, hw⟩ := hw
          obtain ⟨hwt, hwf⟩ := hw
          refine r_lcmp_ge hC 153 dX12_least_126 dX12_least_127 (by decide) o23.1 o23.2 o24.1 o24.2 (fun c25 => ?_) (fun c25 => ?_)
          · have hw := hwt c25
            refine r_iinc hC dX12_least_153 rfl (by decide) ?_
            refine r_goto hC 65 dX12_least_156 (by decide) ?_
            exact r_subk (hX65 _ _ _ _ _ _ _ hw) ⟨rfl, rfl, rfl, rfl, rfl, rfl, rfl, rfl, rfl, rfl, rfl, trivial⟩
          · have hw := hwf c25
            exact r_subk (s_m_least_j0 hC hQ hX45 hX55 hX65 hw) ⟨rfl, rfl, rfl, rfl, rfl, rfl, trivial⟩
def w_m_least_L2 (Q : Int → Mem → Prop) (X45 : Int → Int → Int → Int → Int → Int → Mem → Prop) (X55 : Int → Int → Int → Int → Int → Int → Mem → Prop) (x1 : Int) (x2 : Int) (x10 : Int) (x11 : Int) (x3 : Int) (x4 : Int) (x5 : Int) (x6 : Int) (x8 : Int) (x12 : Int) (M : Mem) : Prop :=
  ∀ X : Int → Int → Int → Int → Int → Int → Mem → Prop, (∀ (x3 : Int) (x4 : Int) (x5 : Int) (x6 : Int) (x8 : Int) (x12 : Int) (M : Mem), w_m_least_B2 Q X45 X55 x1 x2 x10 x11 X x3 x4 x5 x6 x8 x12 M → X x3 x4 x5 x6 x8 x12 M) → X x3 x4 x5 x6 x8 x12 M
set_option maxRecDepth 100000 in
set_option maxHeartbeats 4000000 in
theorem s_m_least_L2 {Q : Int → Mem → Prop} {X45 : Int → Int → Int → Int → Int → Int → Mem → Prop} {X55 : Int → Int → Int → Int → Int → Int → Mem → Prop} {x1 : Int} {x2 : Int} {x10 : Int} {x11 : Int} {x3 : Int} {x4 : Int} {x5 : Int} {x6 : Int} {x8 : Int} {x12 : Int} {M : Mem} (hC : rC p R s m args meth c cells slots D aC ad 14 cX12_least RX12 6 149 (some .long)) (hQ : ∀ (pc : Nat) (L : List (Nat × RV)) (z : Int) (M : Mem), decode cX12_least pc = .ok (.lreturn, 1) → Q z M → rG p l e R s m args below meth c cells slots Qs D aC ad 14 pc L [vJ z] M) (hX45 : ∀ (x3 : Int) (x4 : Int) (x5 : Int) (x6 : Int) (x8 : Int) (x10 : Int) (M : Mem), X45 x3 x4 x5 x6 x8 x10 M → rG p l e R s m args below meth c cells slots Qs D aC ad 14 45 [(0, vR 12), (1, vI x1), (2, vI x2), (3, vI x3), (4, vI x4), (5, vI x5), (6, vJ x6), (8, vJ x8), (10, vI x10)] [] M) (hX55 : ∀ (x3 : Int) (x4 : Int) (x5 : Int) (x6 : Int) (x8 : Int) (x11 : Int) (M : Mem), X55 x3 x4 x5 x6 x8 x11 M → rG p l e R s m args below meth c cells slots Qs D aC ad 14 55 [(0, vR 12), (1, vI x1), (2, vI x2), (3, vI x3), (4, vI x4), (5, vI x5), (6, vJ x6), (8, vJ x8), (10, vI x10), (11, vI x11)] [] M) (hw : w_m_least_L2 Q X45 X55 x1 x2 x10 x11 x3 x4 x5 x6 x8 x12 M) : rG p l e R s m args below meth c cells slots Qs D aC ad 14 65 [(0, vR 12), (1, vI x1), (2, vI x2), (3, vI x3), (4, vI x4), (5, vI x5), (6, vJ x6), (8, vJ x8), (10, vI x10), (11, vI x11), (12, vI x12)] [] M := by
  unfold w_m_least_L2 at hw
  exact hw (fun x3 x4 x5 x6 x8 x12 M => rG p l e R s m args below meth c cells slots Qs D aC ad 14 65 [(0, vR 12), (1, vI x1), (2, vI x2), (3, vI x3), (4, vI x4), (5, vI x5), (6, vJ x6), (8, vJ x8), (10, vI x10), (11, vI x11), (12, vI x12)] [] M) (fun x3 x4 x5 x6 x8 x12 M hb => s_m_least_B2 hC hQ hX45 hX55 (fun _ _ _ _ _ _ _ h => h) hb)
def w_m_least_B1 (Q : Int → Mem → Prop) (X45 : Int → Int → Int → Int → Int → Int → Mem → Prop) (x1 : Int) (x2 : Int) (x10 : Int) (X55 : Int → Int → Int → Int → Int → Int → Mem → Prop) (x3 : Int) (x4 : Int) (x5 : Int) (x6 : Int) (x8 : Int) (x11 : Int) (M : Mem) : Prop :=
  (-2147483648 ≤ x11 ∧ x11 ≤ 2147483647) ∧ ((6 ≤ x11 → X45 x3 x4 x5 x6 x8 (x10 + 1) M) ∧ (¬ (6 ≤ x11) → w_m_least_L2 Q X45 X55 x1 x2 x10 x11 x3 x4 x5 x6 x8 0 M))
set_option maxRecDepth 100000 in
set_option maxHeartbeats 4000000 in
theorem s_m_least_B1 {Q : Int → Mem → Prop} {X45 : Int → Int → Int → Int → Int → Int → Mem → Prop} {x1 : Int} {x2 : Int} {x10 : Int} {X55 : Int → Int → Int → Int → Int → Int → Mem → Prop} {x3 : Int} {x4 : Int} {x5 : Int} {x6 : Int} {x8 : Int} {x11 : Int} {M : Mem} (hC : rC p R s m args meth c cells slots D aC ad 14 cX12_least RX12 6 149 (some .long)) (hQ : ∀ (pc : Nat) (L : List (Nat × RV)) (z : Int) (M : Mem), decode cX12_least pc = .ok (.lreturn, 1) → Q z M → rG p l e R s m args below meth c cells slots Qs D aC ad 14 pc L [vJ z] M) (hX45 : ∀ (x3 : Int) (x4 : Int) (x5 : Int) (x6 : Int) (x8 : Int) (x10 : Int) (M : Mem), X45 x3 x4 x5 x6 x8 x10 M → rG p l e R s m args below meth c cells slots Qs D aC ad 14 45 [(0, vR 12), (1, vI x1), (2, vI x2), (3, vI x3), (4, vI x4), (5, vI x5), (6, vJ x6), (8, vJ x8), (10, vI x10)] [] M) (hX55 : ∀ (x3 : Int) (x4 : Int) (x5 : Int) (x6 : Int) (x8 : Int) (x11 : Int) (M : Mem), X55 x3 x4 x5 x6 x8 x11 M → rG p l e R s m args below meth c cells slots Qs D aC ad 14 55 [(0, vR 12), (1, vI x1), (2, vI x2), (3, vI x3), (4, vI x4), (5, vI x5), (6, vJ x6), (8, vJ x8), (10, vI x10), (11, vI x11)] [] M) (hw : w_m_least_B1 Q X45 x1 x2 x10 X55 x3 x4 x5 x6 x8 x11 M) : rG p l e R s m args below meth c cells slots Qs D aC ad 14 55 [(0, vR 12), (1, vI x1), (2, vI x2), (3, vI x3), (4, vI x4), (5, vI x5), (6, vJ x6), (8, vJ x8), (10, vI x10), (11, vI x11)] [] M := by
  unfold w_m_least_B1 at hw
  refine r_iload hC dX12_least_55 rfl ?_
  refine r_bipush hC dX12_least_57 (by decide) ?_
  obtain ⟨o1, hw⟩ := hw
  obtain ⟨hwt, hwf⟩ := hw
  refine r_icmp_ge hC 165 dX12_least_59 (by decide) o1.1 o1.2 (by decide) (by decide) (fun c3 => ?_) (fun c3 => ?_)
  · have hw := hwt c3
    refine r_iinc hC dX12_least_165 rfl (by decide) ?_
    refine r_goto hC 45 dX12_least_168 (by decide) ?_
    exact r_subk (hX45 _ _ _ _ _ _ _ hw) ⟨rfl, rfl, rfl, rfl, rfl, rfl, rfl, rfl, rfl, trivial⟩
  · have hw := hwf c3
    refine r_iconst hC dX12_least_62 ?_
    refine r_istore hC dX12_least_63 (by decide) ?_
    exact r_subk (s_m_least_L2 hC hQ hX45 hX55 hw) ⟨rfl, rfl, rfl, rfl, rfl, rfl, rfl, rfl, rfl, rfl, rfl, trivial⟩
def w_m_least_L1 (Q : Int → Mem → Prop) (X45 : Int → Int → Int → Int → Int → Int → Mem → Prop) (x1 : Int) (x2 : Int) (x10 : Int) (x3 : Int) (x4 : Int) (x5 : Int) (x6 : Int) (x8 : Int) (x11 : Int) (M : Mem) : Prop :=
  ∀ X : Int → Int → Int → Int → Int → Int → Mem → Prop, (∀ (x3 : Int) (x4 : Int) (x5 : Int) (x6 : Int) (x8 : Int) (x11 : Int) (M : Mem), w_m_least_B1 Q X45 x1 x2 x10 X x3 x4 x5 x6 x8 x11 M → X x3 x4 x5 x6 x8 x11 M) → X x3 x4 x5 x6 x8 x11 M
set_option maxRecDepth 100000 in
set_option maxHeartbeats 4000000 in
theorem s_m_least_L1 {Q : Int → Mem → Prop} {X45 : Int → Int → Int → Int → Int → Int → Mem → Prop} {x1 : Int} {x2 : Int} {x10 : Int} {x3 : Int} {x4 : Int} {x5 : Int} {x6 : Int} {x8 : Int} {x11 : Int} {M : Mem} (hC : rC p R s m args meth c cells slots D aC ad 14 cX12_least RX12 6 149 (some .long)) (hQ : ∀ (pc : Nat) (L : List (Nat × RV)) (z : Int) (M : Mem), decode cX12_least pc = .ok (.lreturn, 1) → Q z M → rG p l e R s m args below meth c cells slots Qs D aC ad 14 pc L [vJ z] M) (hX45 : ∀ (x3 : Int) (x4 : Int) (x5 : Int) (x6 : Int) (x8 : Int) (x10 : Int) (M : Mem), X45 x3 x4 x5 x6 x8 x10 M → rG p l e R s m args below meth c cells slots Qs D aC ad 14 45 [(0, vR 12), (1, vI x1), (2, vI x2), (3, vI x3), (4, vI x4), (5, vI x5), (6, vJ x6), (8, vJ x8), (10, vI x10)] [] M) (hw : w_m_least_L1 Q X45 x1 x2 x10 x3 x4 x5 x6 x8 x11 M) : rG p l e R s m args below meth c cells slots Qs D aC ad 14 55 [(0, vR 12), (1, vI x1), (2, vI x2), (3, vI x3), (4, vI x4), (5, vI x5), (6, vJ x6), (8, vJ x8), (10, vI x10), (11, vI x11)] [] M := by
  unfold w_m_least_L1 at hw
  exact hw (fun x3 x4 x5 x6 x8 x11 M => rG p l e R s m args below meth c cells slots Qs D aC ad 14 55 [(0, vR 12), (1, vI x1), (2, vI x2), (3, vI x3), (4, vI x4), (5, vI x5), (6, vJ x6), (8, vJ x8), (10, vI x10), (11, vI x11)] [] M) (fun x3 x4 x5 x6 x8 x11 M hb => s_m_least_B1 hC hQ hX45 (fun _ _ _ _ _ _ _ h => h) hb)
def w_m_least_B0 (Q : Int → Mem → Prop) (x1 : Int) (x2 : Int) (X45 : Int → Int → Int → Int → Int → Int → Mem → Prop) (x3 : Int) (x4 : Int) (x5 : Int) (x6 : Int) (x8 : Int) (x10 : Int) (M : Mem) : Prop :=
  (-2147483648 ≤ x10 ∧ x10 ≤ 2147483647) ∧ ((6 ≤ x10 → (-2147483648 ≤ x3 ∧ x3 ≤ 2147483647) ∧ ((0 ≤ x3 → w_m_gcd M x6 x8 (fun a7 => (-2147483648 ≤ x2 ∧ x2 ≤ 2147483647) ∧ ((¬ (x2 = 0) → (-2147483648 ≤ x2 ∧ x2 ≤ 2147483647) ∧ ((¬ (x2 = 1) → (-2147483648 ≤ x2 ∧ x2 ≤ 2147483647) ∧ ((¬ (x2 = 2) → (-2147483648 ≤ x2 ∧ x2 ≤ 2147483647) ∧ ((¬ (x2 = 3) → ((0 ≤ x8 ∧ x8 ≤ 9223372036854775807) ∧ (0 < a7 ∧ a7 ≤ 9223372036854775807)) ∧ (Q (x8 / a7) M)) ∧ (x2 = 3 → ((0 ≤ x6 ∧ x6 ≤ 9223372036854775807) ∧ (0 < a7 ∧ a7 ≤ 9223372036854775807)) ∧ (Q (x6 / a7) M)))) ∧ (x2 = 2 → (-2147483648 ≤ x5 ∧ x5 ≤ 2147483647) ∧ (Q x5 M)))) ∧ (x2 = 1 → (-2147483648 ≤ x4 ∧ x4 ≤ 2147483647) ∧ (Q x4 M)))) ∧ (x2 = 0 → (-2147483648 ≤ x3 ∧ x3 ≤ 2147483647) ∧ (Q x3 M))))) ∧ (¬ (0 ≤ x3) → Q (-1) M))) ∧ (¬ (6 ≤ x10) → w_m_least_L1 Q X45 x1 x2 x10 x3 x4 x5 x6 x8 0 M))
set_option maxRecDepth 100000 in
set_option maxHeartbeats 4000000 in
theorem s_m_least_B0 {Q : Int → Mem → Prop} {x1 : Int} {x2 : Int} {X45 : Int → Int → Int → Int → Int → Int → Mem → Prop} {x3 : Int} {x4 : Int} {x5 : Int} {x6 : Int} {x8 : Int} {x10 : Int} {M : Mem} (hC : rC p R s m args meth c cells slots D aC ad 14 cX12_least RX12 6 149 (some .long)) (hQ : ∀ (pc : Nat) (L : List (Nat × RV)) (z : Int) (M : Mem), decode cX12_least pc = .ok (.lreturn, 1) → Q z M → rG p l e R s m args below meth c cells slots Qs D aC ad 14 pc L [vJ z] M) (hX45 : ∀ (x3 : Int) (x4 : Int) (x5 : Int) (x6 : Int) (x8 : Int) (x10 : Int) (M : Mem), X45 x3 x4 x5 x6 x8 x10 M → rG p l e R s m args below meth c cells slots Qs D aC ad 14 45 [(0, vR 12), (1, vI x1), (2, vI x2), (3, vI x3), (4, vI x4), (5, vI x5), (6, vJ x6), (8, vJ x8), (10, vI x10)] [] M) (hw : w_m_least_B0 Q x1 x2 X45 x3 x4 x5 x6 x8 x10 M) : rG p l e R s m args below meth c cells slots Qs D aC ad 14 45 [(0, vR 12), (1, vI x1), (2, vI x2), (3, vI x3), (4, vI x4), (5, vI x5), (6, vJ x6), (8, vJ x8), (10, vI x10)] [] M := by
  unfold w_m_least_B0 at hw
  refine r_iload hC dX12_least_45 rfl ?_
  refine r_bipush hC dX12_least_47 (by decide) ?_
  obtain ⟨o1, hw⟩ := hw
  obtain ⟨hwt, hwf⟩ := hw
  refine r_icmp_ge hC 171 dX12_least_49 (by decide) o1.1 o1.2 (by decide) (by decide) (fun c3 => ?_) (fun c3 => ?_)
  · have hw := hwt c3
    refine r_iload_n hC dX12_least_171 rfl rfl ?_
    obtain ⟨o4, hw⟩ := hw
    obtain ⟨hwt, hwf⟩ := hw
    refine r_if_ge hC 179 dX12_least_172 (by decide) o4.1 o4.2 (fun c6 => ?_) (fun c6 => ?_)
    · have hw := hwt c6
      refine r_lload hC dX12_least_179 rfl ?_
      refine r_lload hC dX12_least_181 rfl ?_
      refine r_callS hC (d_m_gcd hw) kC12_gcd km12_291 kT12_gcd kN12 dd_12_gcd ⟨Nat.le_of_ble_eq_true rfl, Nat.le_of_ble_eq_true rfl⟩ rfl (Nat.le_of_ble_eq_true rfl) dX12_least_183 (fun r M' hp => ?_)
      obtain ⟨rfl, a7, rfl, hw⟩ := hp
      try dsimp only at hw
      refine r_lstore hC dX12_least_186 (by decide) ?_
      refine r_iload_n hC dX12_least_188 rfl rfl ?_
      obtain ⟨o8, hw⟩ := hw
      obtain ⟨hwt, hwf⟩ := hw
      refine r_if_ne hC 197 dX12_least_189 (by decide) o8.1 o8.2 (fun c10 => ?_) (fun c10 => ?_)
      · have hw := hwt c10
        refine r_iload_n hC dX12_least_197 rfl rfl ?_
        refine r_iconst hC dX12_least_198 ?_
        obtain ⟨o11, hw⟩ := hw
        obtain ⟨hwt, hwf⟩ := hw
        refine r_icmp_ne hC 208 dX12_least_199 (by decide) o11.1 o11.2 (by decide) (by decide) (fun c13 => ?_) (fun c13 => ?_)
        · have hw := hwt c13
          refine r_iload_n hC dX12_least_208 rfl rfl ?_
          refine r_iconst hC dX12_least_209 ?_
          obtain ⟨o14, hw⟩ := hw
          obtain ⟨hwt, hwf⟩ := hw
          refine r_icmp_ne hC 219 dX12_least_210 (by decide) o14.1 o14.2 (by decide) (by decide) (fun c16 => ?_) (fun c16 => ?_)
          · have hw := hwt c16
            refine r_iload_n hC dX12_least_219 rfl rfl ?_
            refine r_iconst hC dX12_least_220 ?_
            obtain ⟨o17, hw⟩ := hw
            obtain ⟨hwt, hwf⟩ := hw
            refine r_icmp_ne hC 232 dX12_least_221 (by decide) o17.1 o17.2 (by decide) (by decide) (fun c19 => ?_) (fun c19 => ?_)
            · have hw := hwt c19
              refine r_lload hC dX12_least_232 rfl ?_
              refine r_lload hC dX12_least_234 rfl ?_
              obtain ⟨o20, hw⟩ := hw
              refine r_ldiv hC dX12_least_236 o20.1.1 o20.1.2 o20.2.1 o20.2.2 ?_
              exact hQ _ _ _ _ dX12_least_237 hw
            · have hw := hwf c19
              refine r_lload hC dX12_least_224 rfl ?_
              refine r_lload hC dX12_least_226 rfl ?_
              obtain ⟨o21, hw⟩ := hw
              refine r_ldiv hC dX12_least_228 o21.1.1 o21.1.2 o21.2.1 o21.2.2 ?_
              refine r_goto hC 237 dX12_least_229 (by decide) ?_
              exact hQ _ _ _ _ dX12_least_237 hw
          · have hw := hwf c16
            refine r_iload hC dX12_least_213 rfl ?_
            obtain ⟨o22, hw⟩ := hw
            refine r_i2l hC dX12_least_215 o22.1 o22.2 ?_
            refine r_goto hC 237 dX12_least_216 (by decide) ?_
            exact hQ _ _ _ _ dX12_least_237 hw
        · have hw := hwf c13
          refine r_iload hC dX12_least_202 rfl ?_
          obtain ⟨o23, hw⟩ := hw
          refine r_i2l hC dX12_least_204 o23.1 o23.2 ?_
          refine r_goto hC 237 dX12_least_205 (by decide) ?_
          exact hQ _ _ _ _ dX12_least_237 hw
      · have hw := hwf c10
        refine r_iload_n hC dX12_least_192 rfl rfl ?_
        obtain ⟨o24, hw⟩ := hw
        refine r_i2l hC dX12_least_193 o24.1 o24.2 ?_
        refine r_goto hC 237 dX12_least_194 (by decide) ?_
        exact hQ _ _ _ _ dX12_least_237 hw
    · have hw := hwf c6
      refine r_ldc2 hC (-1) dX12_least_175 kL12_362 (by decide) ?_
      exact hQ _ _ _ _ dX12_least_178 hw
  · have hw := hwf c3
    refine r_iconst hC dX12_least_52 ?_
    refine r_istore hC dX12_least_53 (by decide) ?_
    exact r_subk (s_m_least_L1 hC hQ hX45 hw) ⟨rfl, rfl, rfl, rfl, rfl, rfl, rfl, rfl, rfl, rfl, trivial⟩
def w_m_least_L0 (Q : Int → Mem → Prop) (x1 : Int) (x2 : Int) (x3 : Int) (x4 : Int) (x5 : Int) (x6 : Int) (x8 : Int) (x10 : Int) (M : Mem) : Prop :=
  ∀ X : Int → Int → Int → Int → Int → Int → Mem → Prop, (∀ (x3 : Int) (x4 : Int) (x5 : Int) (x6 : Int) (x8 : Int) (x10 : Int) (M : Mem), w_m_least_B0 Q x1 x2 X x3 x4 x5 x6 x8 x10 M → X x3 x4 x5 x6 x8 x10 M) → X x3 x4 x5 x6 x8 x10 M
set_option maxRecDepth 100000 in
set_option maxHeartbeats 4000000 in
theorem s_m_least_L0 {Q : Int → Mem → Prop} {x1 : Int} {x2 : Int} {x3 : Int} {x4 : Int} {x5 : Int} {x6 : Int} {x8 : Int} {x10 : Int} {M : Mem} (hC : rC p R s m args meth c cells slots D aC ad 14 cX12_least RX12 6 149 (some .long)) (hQ : ∀ (pc : Nat) (L : List (Nat × RV)) (z : Int) (M : Mem), decode cX12_least pc = .ok (.lreturn, 1) → Q z M → rG p l e R s m args below meth c cells slots Qs D aC ad 14 pc L [vJ z] M) (hw : w_m_least_L0 Q x1 x2 x3 x4 x5 x6 x8 x10 M) : rG p l e R s m args below meth c cells slots Qs D aC ad 14 45 [(0, vR 12), (1, vI x1), (2, vI x2), (3, vI x3), (4, vI x4), (5, vI x5), (6, vJ x6), (8, vJ x8), (10, vI x10)] [] M := by
  unfold w_m_least_L0 at hw
  exact hw (fun x3 x4 x5 x6 x8 x10 M => rG p l e R s m args below meth c cells slots Qs D aC ad 14 45 [(0, vR 12), (1, vI x1), (2, vI x2), (3, vI x3), (4, vI x4), (5, vI x5), (6, vJ x6), (8, vJ x8), (10, vI x10)] [] M) (fun x3 x4 x5 x6 x8 x10 M hb => s_m_least_B0 hC hQ (fun _ _ _ _ _ _ _ h => h) hb)
def w_m_least (M : Mem) (x1 : Int) (x2 : Int) (Q : Int → Mem → Prop) : Prop :=
  w_m_isShake M x1 (fun a1 => (-2147483648 ≤ a1 ∧ a1 ≤ 2147483647) ∧ ((¬ (a1 = 0) → (-2147483648 ≤ x2 ∧ x2 ≤ 2147483647) ∧ (w_m_in M x2 0 4 (fun a6 => (-2147483648 ≤ a6 ∧ a6 ≤ 2147483647) ∧ ((¬ (a6 = 0) → w_m_least_L0 Q x1 x2 (-1) (-1) (-1) 0 0 0 M) ∧ (a6 = 0 → Q (-1002) M))))) ∧ (a1 = 0 → Q (-1001) M)))
set_option maxRecDepth 100000 in
set_option maxHeartbeats 4000000 in
theorem s_m_least {M : Mem} {x1 : Int} {x2 : Int} {Q : Int → Mem → Prop} (hC : rC p R s m args meth c cells slots D aC ad 14 cX12_least RX12 6 149 (some .long)) (hQ : ∀ (pc : Nat) (L : List (Nat × RV)) (z : Int) (M : Mem), decode cX12_least pc = .ok (.lreturn, 1) → Q z M → rG p l e R s m args below meth c cells slots Qs D aC ad 14 pc L [vJ z] M) (hw : w_m_least M x1 x2 Q) : rG p l e R s m args below meth c cells slots Qs D aC ad 14 0 [(0, vR 12), (1, vI x1), (2, vI x2)] [] M := by
  unfold w_m_least at hw
  refine r_aload_n hC dX12_least_0 rfl rfl ?_
  refine r_iload_n hC dX12_least_1 rfl rfl ?_
  refine r_callV hC (d_m_isShake hw) rfl kC12_isShake km12_207 kI12_isShake kS12_isShake kN12 dd_12_isShake ⟨Nat.le_of_ble_eq_true rfl, Nat.le_of_ble_eq_true rfl⟩ rfl (Nat.le_of_ble_eq_true rfl) dX12_least_2 (fun r M' hp => ?_)
  obtain ⟨rfl, a1, rfl, hw⟩ := hp
  try dsimp only at hw
  obtain ⟨o2, hw⟩ := hw
  obtain ⟨hwt, hwf⟩ := hw
  refine r_if_ne hC 12 dX12_least_5 (by decide) o2.1 o2.2 (fun c4 => ?_) (fun c4 => ?_)
  · have hw := hwt c4
    refine r_iload_n hC dX12_least_12 rfl rfl ?_
    obtain ⟨o5, hw⟩ := hw
    refine r_i2l hC dX12_least_13 o5.1 o5.2 ?_
    refine r_lconst hC 0 dX12_least_14 (by decide) ?_
    refine r_ldc2 hC (4) dX12_least_15 kL12_360 (by decide) ?_
    refine r_callS hC (d_m_in hw) kC12_in km12_165 kT12_in kN12 dd_12_in ⟨Nat.le_of_ble_eq_true rfl, Nat.le_of_ble_eq_true rfl⟩ rfl (Nat.le_of_ble_eq_true rfl) dX12_least_18 (fun r M' hp => ?_)
    obtain ⟨rfl, a6, rfl, hw⟩ := hp
    try dsimp only at hw
    obtain ⟨o7, hw⟩ := hw
    obtain ⟨hwt, hwf⟩ := hw
    refine r_if_ne hC 28 dX12_least_21 (by decide) o7.1 o7.2 (fun c9 => ?_) (fun c9 => ?_)
    · have hw := hwt c9
      refine r_iconst hC dX12_least_28 ?_
      refine r_istore_n hC dX12_least_29 rfl (by decide) ?_
      refine r_iconst hC dX12_least_30 ?_
      refine r_istore hC dX12_least_31 (by decide) ?_
      refine r_iconst hC dX12_least_33 ?_
      refine r_istore hC dX12_least_34 (by decide) ?_
      refine r_lconst hC 0 dX12_least_36 (by decide) ?_
      refine r_lstore hC dX12_least_37 (by decide) ?_
      refine r_lconst hC 0 dX12_least_39 (by decide) ?_
      refine r_lstore hC dX12_least_40 (by decide) ?_
      refine r_iconst hC dX12_least_42 ?_
      refine r_istore hC dX12_least_43 (by decide) ?_
      exact r_subk (s_m_least_L0 hC hQ hw) ⟨rfl, rfl, rfl, rfl, rfl, rfl, rfl, rfl, rfl, trivial⟩
    · have hw := hwf c9
      refine r_ldc2 hC (-1002) dX12_least_24 kL12_308 (by decide) ?_
      exact hQ _ _ _ _ dX12_least_27 hw
  · have hw := hwf c4
    refine r_ldc2 hC (-1001) dX12_least_8 kL12_306 (by decide) ?_
    exact hQ _ _ _ _ dX12_least_11 hw
set_option maxRecDepth 100000 in
set_option maxHeartbeats 4000000 in
theorem d_m_least {l : Launch} {D : va_G} {aC : Nat → ClassId} {ad : Nat → Nat} {M : Mem} {x1 : Int} {x2 : Int} {Q : Int → Mem → Prop} (hw : w_m_least M x1 x2 Q) : Does l D aC ad yX12_least cX12_least 14 (some .long) 6 149 [vR 12, vI x1, vI x2] M (pJ Q) :=
  Does.of (by decide) (Nat.le_of_ble_eq_true rfl) (fun p e R s m args below meth c hC => r_subk (s_m_least hC (fun pc L z M d h => r_lret hC d ⟨z, rfl, h⟩) hw) ⟨rfl, rfl, rfl, trivial⟩)
end
