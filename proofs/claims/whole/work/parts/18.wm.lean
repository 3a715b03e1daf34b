section
variable {p : Program} {l : Launch} {e : Env} {R : Room} {s : State} {m : MethodId} {args : Array Value} {below : List Frame} {meth : Method} {c : Code} {cells slots : Nat} {Qs : State → Prop} {D : va_G} {aC : Nat → ClassId} {ad : Nat → Nat}
theorem dd_12_barsChoice : yX12_barsChoice.cls ≠ "java/lang/invoke/MethodHandle" ∧ yX12_barsChoice.cls ≠ "java/lang/invoke/VarHandle" ∧ (parseMethodDescriptor yX12_barsChoice.desc).map (fun d => d.parameters.length) = some 1 := by decide +kernel
theorem dd_12_forget : yX12_forget.cls ≠ "java/lang/invoke/MethodHandle" ∧ yX12_forget.cls ≠ "java/lang/invoke/VarHandle" ∧ (parseMethodDescriptor yX12_forget.desc).map (fun d => d.parameters.length) = some 0 := by decide +kernel
theorem dd_12_manyChoices : yX12_manyChoices.cls ≠ "java/lang/invoke/MethodHandle" ∧ yX12_manyChoices.cls ≠ "java/lang/invoke/VarHandle" ∧ (parseMethodDescriptor yX12_manyChoices.desc).map (fun d => d.parameters.length) = some 1 := by decide +kernel
/-- SoupSandModel.bars -/
def w_m_bars_B0 (Q : Int → Mem → Prop) (x1 : Int) (x2 : Int) (X28 : Int → Int → Mem → Prop) (x3 : Int) (x4 : Int) (M : Mem) : Prop :=
  w_m_manyChoices M x2 (fun a1 => (-2147483648 ≤ x4 ∧ x4 ≤ 2147483647) ∧ ((-2147483648 ≤ a1 ∧ a1 ≤ 2147483647) ∧ ((a1 ≤ x4 → Q x3 M) ∧ (¬ (a1 ≤ x4) → w_m_choose M x2 x4 (fun M6 => w_m_forget M6 (fun M8 => w_m_barsChoice M8 x1 (fun a9 M10 => (-2147483648 ≤ a9 ∧ a9 ≤ 2147483647) ∧ ((a9 = 0 → X28 (x3 + 0) (x4 + 1) M10) ∧ (¬ (a9 = 0) → X28 (x3 + 1) (x4 + 1) M10)))))))))
set_option maxRecDepth 100000 in
set_option maxHeartbeats 4000000 in
theorem s_m_bars_B0 {Q : Int → Mem → Prop} {x1 : Int} {x2 : Int} {X28 : Int → Int → Mem → Prop} {x3 : Int} {x4 : Int} {M : Mem} (hC : rC p R s m args meth c cells slots D aC ad 5 cX12_bars RX12 6 143 (some .int)) (hQ : ∀ (pc : Nat) (L : List (Nat × RV)) (z : Int) (M : Mem), decode cX12_bars pc = .ok (.ireturn, 1) → Q z M → rG p l e R s m args below meth c cells slots Qs D aC ad 5 pc L [vI z] M) (hX28 : ∀ (x3 : Int) (x4 : Int) (M : Mem), X28 x3 x4 M → rG p l e R s m args below meth c cells slots Qs D aC ad 5 28 [(0, vR 12), (1, vI x1), (2, vI x2), (3, vI x3), (4, vI x4)] [] M) (hw : w_m_bars_B0 Q x1 x2 X28 x3 x4 M) : rG p l e R s m args below meth c cells slots Qs D aC ad 5 28 [(0, vR 12), (1, vI x1), (2, vI x2), (3, vI x3), (4, vI x4)] [] M := by
  unfold w_m_bars_B0 at hw
  refine r_iload hC dX12_bars_28 rfl ?_
  refine r_aload_n hC dX12_bars_30 rfl rfl ?_
  refine r_iload_n hC dX12_bars_31 rfl rfl ?_
  refine r_callV hC (d_m_manyChoices hw) rfl kC12_manyChoices km12_266 kI12_manyChoices kS12_manyChoices kN12 dd_12_manyChoices ⟨Nat.le_of_ble_eq_true rfl, Nat.le_of_ble_eq_true rfl⟩ rfl (Nat.le_of_ble_eq_true rfl) dX12_bars_32 (fun r M' hp => ?_)
  obtain ⟨rfl, a1, rfl, hw⟩ := hp
  try dsimp only at hw
  obtain ⟨o2, hw⟩ := hw
  obtain ⟨o3, hw⟩ := hw
  obtain ⟨hwt, hwf⟩ := hw
  refine r_icmp_ge hC 71 dX12_bars_35 (by decide) o2.1 o2.2 o3.1 o3.2 (fun c4 => ?_) (fun c4 => ?_)
  · have hw := hwt c4
    refine r_iload_n hC dX12_bars_71 rfl rfl ?_
    exact hQ _ _ _ _ dX12_bars_72 hw
  · have hw := hwf c4
    refine r_aload_n hC dX12_bars_38 rfl rfl ?_
    refine r_iload_n hC dX12_bars_39 rfl rfl ?_
    refine r_iload hC dX12_bars_40 rfl ?_
    refine r_callV hC (d_m_choose hw) rfl kC12_choose km12_246 kI12_choose kS12_choose kN12 dd_12_choose ⟨Nat.le_of_ble_eq_true rfl, Nat.le_of_ble_eq_true rfl⟩ rfl (Nat.le_of_ble_eq_true rfl) dX12_bars_42 (fun r M' hp => ?_)
    obtain ⟨rfl, hw⟩ := hp
    try dsimp only at hw
    refine r_aload_n hC dX12_bars_45 rfl rfl ?_
    refine r_callV hC (d_m_forget hw) rfl kC12_forget km12_260 kI12_forget kS12_forget kN12 dd_12_forget ⟨Nat.le_of_ble_eq_true rfl, Nat.le_of_ble_eq_true rfl⟩ rfl (Nat.le_of_ble_eq_true rfl) dX12_bars_46 (fun r M' hp => ?_)
    obtain ⟨rfl, hw⟩ := hp
    try dsimp only at hw
    refine r_iload_n hC dX12_bars_49 rfl rfl ?_
    refine r_aload_n hC dX12_bars_50 rfl rfl ?_
    refine r_iload_n hC dX12_bars_51 rfl rfl ?_
    refine r_callV hC (d_m_barsChoice hw) rfl kC12_barsChoice km12_263 kI12_barsChoice kS12_barsChoice kN12 dd_12_barsChoice ⟨Nat.le_of_ble_eq_true rfl, Nat.le_of_ble_eq_true rfl⟩ rfl (Nat.le_of_ble_eq_true rfl) dX12_bars_52 (fun r M' hp => ?_)
    obtain ⟨a9, rfl, hw⟩ := hp
    try dsimp only at hw
    obtain ⟨o11, hw⟩ := hw
    obtain ⟨hwt, hwf⟩ := hw
    refine r_if_eq hC 62 dX12_bars_55 (by decide) o11.1 o11.2 (fun c13 => ?_) (fun c13 => ?_)
    · have hw := hwt c13
      refine r_iconst hC dX12_bars_62 ?_
      refine r_iadd hC dX12_bars_63 ?_
      refine r_istore_n hC dX12_bars_64 rfl (by decide) ?_
      refine r_iinc hC dX12_bars_65 rfl (by decide) ?_
      refine r_goto hC 28 dX12_bars_68 (by decide) ?_
      exact r_subk (hX28 _ _ _ hw) ⟨rfl, rfl, rfl, rfl, rfl, trivial⟩
    · have hw := hwf c13
      refine r_iconst hC dX12_bars_58 ?_
      refine r_goto hC 63 dX12_bars_59 (by decide) ?_
      refine r_iadd hC dX12_bars_63 ?_
      refine r_istore_n hC dX12_bars_64 rfl (by decide) ?_
      refine r_iinc hC dX12_bars_65 rfl (by decide) ?_
      refine r_goto hC 28 dX12_bars_68 (by decide) ?_
      exact r_subk (hX28 _ _ _ hw) ⟨rfl, rfl, rfl, rfl, rfl, trivial⟩
def w_m_bars_L0 (Q : Int → Mem → Prop) (x1 : Int) (x2 : Int) (x3 : Int) (x4 : Int) (M : Mem) : Prop :=
  ∀ X : Int → Int → Mem → Prop, (∀ (x3 : Int) (x4 : Int) (M : Mem), w_m_bars_B0 Q x1 x2 X x3 x4 M → X x3 x4 M) → X x3 x4 M
set_option maxRecDepth 100000 in
set_option maxHeartbeats 4000000 in
theorem s_m_bars_L0 {Q : Int → Mem → Prop} {x1 : Int} {x2 : Int} {x3 : Int} {x4 : Int} {M : Mem} (hC : rC p R s m args meth c cells slots D aC ad 5 cX12_bars RX12 6 143 (some .int)) (hQ : ∀ (pc : Nat) (L : List (Nat × RV)) (z : Int) (M : Mem), decode cX12_bars pc = .ok (.ireturn, 1) → Q z M → rG p l e R s m args below meth c cells slots Qs D aC ad 5 pc L [vI z] M) (hw : w_m_bars_L0 Q x1 x2 x3 x4 M) : rG p l e R s m args below meth c cells slots Qs D aC ad 5 28 [(0, vR 12), (1, vI x1), (2, vI x2), (3, vI x3), (4, vI x4)] [] M := by
  unfold w_m_bars_L0 at hw
  exact hw (fun x3 x4 M => rG p l e R s m args below meth c cells slots Qs D aC ad 5 28 [(0, vR 12), (1, vI x1), (2, vI x2), (3, vI x3), (4, vI x4)] [] M) (fun x3 x4 M hb => s_m_bars_B0 hC hQ (fun _ _ _ h => h) hb)
def w_m_bars (M : Mem) (x1 : Int) (Q : Int → Mem → Prop) : Prop :=
  w_m_isWord M x1 (fun a1 => (-2147483648 ≤ a1 ∧ a1 ≤ 2147483647) ∧ ((¬ (a1 = 0) → w_m_plain M (fun M6 => (0 ≤ x1 ∧ x1 < 16) ∧ (∀ a8 : Int, a8 = M6 75 x1 → 0 ≤ a8 → a8 ≤ 5 → w_m_bars_L0 Q x1 a8 0 0 M6))) ∧ (a1 = 0 → Q (-1001) M)))
set_option maxRecDepth 100000 in
set_option maxHeartbeats 4000000 in
theorem s_m_bars {M : Mem} {x1 : Int} {Q : Int → Mem → Prop} (hC : rC p R s m args meth c cells slots D aC ad 5 cX12_bars RX12 6 143 (some .int)) (hQ : ∀ (pc : Nat) (L : List (Nat × RV)) (z : Int) (M : Mem), decode cX12_bars pc = .ok (.ireturn, 1) → Q z M → rG p l e R s m args below meth c cells slots Qs D aC ad 5 pc L [vI z] M) (hw : w_m_bars M x1 Q) : rG p l e R s m args below meth c cells slots Qs D aC ad 5 0 [(0, vR 12), (1, vI x1)] [] M := by
  unfold w_m_bars at hw
  refine r_aload_n hC dX12_bars_0 rfl rfl ?_
  refine r_iload_n hC dX12_bars_1 rfl rfl ?_
  refine r_callV hC (d_m_isWord hw) rfl kC12_isWord km12_254 kI12_isWord kS12_isWord kN12 dd_12_isWord ⟨Nat.le_of_ble_eq_true rfl, Nat.le_of_ble_eq_true rfl⟩ rfl (Nat.le_of_ble_eq_true rfl) dX12_bars_2 (fun r M' hp => ?_)
  obtain ⟨rfl, a1, rfl, hw⟩ := hp
  try dsimp only at hw
  obtain ⟨o2, hw⟩ := hw
  obtain ⟨hwt, hwf⟩ := hw
  refine r_if_ne hC 12 dX12_bars_5 (by decide) o2.1 o2.2 (fun c4 => ?_) (fun c4 => ?_)
  · have hw := hwt c4
    refine r_aload_n hC dX12_bars_12 rfl rfl ?_
    refine r_callV hC (d_m_plain hw) rfl kC12_plain km12_243 kI12_plain kS12_plain kN12 dd_12_plain ⟨Nat.le_of_ble_eq_true rfl, Nat.le_of_ble_eq_true rfl⟩ rfl (Nat.le_of_ble_eq_true rfl) dX12_bars_13 (fun r M' hp => ?_)
    obtain ⟨rfl, hw⟩ := hp
    try dsimp only at hw
    refine r_aload_n hC dX12_bars_16 rfl rfl ?_
    refine r_getR hC 27 rfl (by decide) kf12_77 rfl rfl dX12_bars_17 ?_
    refine r_iload_n hC dX12_bars_20 rfl rfl ?_
    obtain ⟨o7, hw⟩ := hw
    refine r_iald hC rfl o7.1 o7.2 (by decide) (by decide) dX12_bars_21 (fun b9 b9' => ?_)
    replace hw := hw _ rfl b9 b9'
    refine r_istore_n hC dX12_bars_22 rfl (by decide) ?_
    refine r_iconst hC dX12_bars_23 ?_
    refine r_istore_n hC dX12_bars_24 rfl (by decide) ?_
    refine r_iconst hC dX12_bars_25 ?_
    refine r_istore hC dX12_bars_26 (by decide) ?_
    exact r_subk (s_m_bars_L0 hC hQ hw) ⟨rfl, rfl, rfl, rfl, rfl, trivial⟩
  · have hw := hwf c4
    refine r_sipush hC dX12_bars_8 (by decide) ?_
    exact hQ _ _ _ _ dX12_bars_11 hw
set_option maxRecDepth 100000 in
set_option maxHeartbeats 4000000 in
theorem d_m_bars {l : Launch} {D : va_G} {aC : Nat → ClassId} {ad : Nat → Nat} {M : Mem} {x1 : Int} {Q : Int → Mem → Prop} (hw : w_m_bars M x1 Q) : Does l D aC ad yX12_bars cX12_bars 5 (some .int) 6 143 [vR 12, vI x1] M (pI Q) :=
  Does.of (by decide) (Nat.le_of_ble_eq_true rfl) (fun p e R s m args below meth c hC => r_subk (s_m_bars hC (fun pc L z M d h => r_iret hC d ⟨z, rfl, h⟩) hw) ⟨rfl, rfl, trivial⟩)
/-- SoupSandModel.barring -/
def w_m_barring_B0 (Q : Int → Mem → Prop) (x1 : Int) (X8 : Int → Int → Mem → Prop) (x2 : Int) (x3 : Int) (M : Mem) : Prop :=
  ∀ a1 : Int, a1 = M 12 26 → 0 ≤ a1 → a1 ≤ 16 → (-2147483648 ≤ x3 ∧ x3 ≤ 2147483647) ∧ ((a1 ≤ x3 → Q x2 M) ∧ (¬ (a1 ≤ x3) → (0 ≤ x3 ∧ x3 < 16) ∧ (∀ a7 : Int, a7 = M 75 x3 → 0 ≤ a7 → a7 ≤ 5 → (-2147483648 ≤ x1 ∧ x1 ≤ 2147483647) ∧ ((¬ (a7 = x1) → X8 (bOr x2 0) (x3 + 1) M) ∧ (a7 = x1 → (0 ≤ x3 ∧ x3 < 16) ∧ (∀ a13 : Int, a13 = M 80 x3 → 0 ≤ a13 → a13 ≤ 1 → (¬ (a13 = 0) → X8 (bOr x2 0) (x3 + 1) M) ∧ (a13 = 0 → w_m_barsChoice M x3 (fun a18 M19 => (-2147483648 ≤ a18 ∧ a18 ≤ 2147483647) ∧ ((a18 = 0 → X8 (bOr x2 0) (x3 + 1) M19) ∧ (¬ (a18 = 0) → X8 (bOr x2 (bShl 1 x3)) (x3 + 1) M19))))))))))
set_option maxRecDepth 100000 in
set_option maxHeartbeats 4000000 in
theorem s_m_barring_B0 {Q : Int → Mem → Prop} {x1 : Int} {X8 : Int → Int → Mem → Prop} {x2 : Int} {x3 : Int} {M : Mem} (hC : rC p R s m args meth c cells slots D aC ad 4 cX12_barring RX12 6 143 (some .int)) (hQ : ∀ (pc : Nat) (L : List (Nat × RV)) (z : Int) (M : Mem), decode cX12_barring pc = .ok (.ireturn, 1) → Q z M → rG p l e R s m args below meth c cells slots Qs D aC ad 4 pc L [vI z] M) (hX8 : ∀ (x2 : Int) (x3 : Int) (M : Mem), X8 x2 x3 M → rG p l e R s m args below meth c cells slots Qs D aC ad 4 8 [(0, vR 12), (1, vI x1), (2, vI x2), (3, vI x3)] [] M) (hw : w_m_barring_B0 Q x1 X8 x2 x3 M) : rG p l e R s m args below meth c cells slots Qs D aC ad 4 8 [(0, vR 12), (1, vI x1), (2, vI x2), (3, vI x3)] [] M := by
  unfold w_m_barring_B0 at hw
  refine r_iload_n hC dX12_barring_8 rfl rfl ?_
  refine r_aload_n hC dX12_barring_9 rfl rfl ?_
  refine r_getI hC 26 rfl (by decide) kf12_210 rfl rfl dX12_barring_10 (fun b2 b2' => ?_)
  replace hw := hw _ rfl b2 b2'
  obtain ⟨o3, hw⟩ := hw
  obtain ⟨hwt, hwf⟩ := hw
  refine r_icmp_ge hC 59 dX12_barring_13 (by decide) o3.1 o3.2 (by omega) (by omega) (fun c5 => ?_) (fun c5 => ?_)
  · have hw := hwt c5
    refine r_iload_n hC dX12_barring_59 rfl rfl ?_
    exact hQ _ _ _ _ dX12_barring_60 hw
  · have hw := hwf c5
    refine r_iload_n hC dX12_barring_16 rfl rfl ?_
    refine r_aload_n hC dX12_barring_17 rfl rfl ?_
    refine r_getR hC 27 rfl (by decide) kf12_77 rfl rfl dX12_barring_18 ?_
    refine r_iload_n hC dX12_barring_21 rfl rfl ?_
    obtain ⟨o6, hw⟩ := hw
    refine r_iald hC rfl o6.1 o6.2 (by decide) (by decide) dX12_barring_22 (fun b8 b8' => ?_)
    replace hw := hw _ rfl b8 b8'
    refine r_iload_n hC dX12_barring_23 rfl rfl ?_
    obtain ⟨o10, hw⟩ := hw
    obtain ⟨hwt, hwf⟩ := hw
    refine r_icmp_ne hC 50 dX12_barring_24 (by decide) (by omega) (by omega) o10.1 o10.2 (fun c11 => ?_) (fun c11 => ?_)
    · have hw := hwt c11
      refine r_iconst hC dX12_barring_50 ?_
      refine r_ior hC dX12_barring_51 ?_
      refine r_istore_n hC dX12_barring_52 rfl (by decide) ?_
      refine r_iinc hC dX12_barring_53 rfl (by decide) ?_
      refine r_goto hC 8 dX12_barring_56 (by decide) ?_
      exact r_subk (hX8 _ _ _ hw) ⟨rfl, rfl, rfl, rfl, trivial⟩
    · have hw := hwf c11
      refine r_aload_n hC dX12_barring_27 rfl rfl ?_
      refine r_getR hC 32 rfl (by decide) kf12_92 rfl rfl dX12_barring_28 ?_
      refine r_iload_n hC dX12_barring_31 rfl rfl ?_
      obtain ⟨o12, hw⟩ := hw
      refine r_zald hC rfl o12.1 o12.2 (by decide) (by decide) dX12_barring_32 (fun b14 b14' => ?_)
      replace hw := hw _ rfl b14 b14'
      obtain ⟨hwt, hwf⟩ := hw
      refine r_if_ne hC 50 dX12_barring_33 (by decide) (by omega) (by omega) (fun c17 => ?_) (fun c17 => ?_)
      · have hw := hwt c17
        refine r_iconst hC dX12_barring_50 ?_
        refine r_ior hC dX12_barring_51 ?_
        refine r_istore_n hC dX12_barring_52 rfl (by decide) ?_
        refine r_iinc hC dX12_barring_53 rfl (by decide) ?_
        refine r_goto hC 8 dX12_barring_56 (by decide) ?_
        exact r_subk (hX8 _ _ _ hw) ⟨rfl, rfl, rfl, rfl, trivial⟩
      · have hw := hwf c17
        refine r_aload_n hC dX12_barring_36 rfl rfl ?_
        refine r_iload_n hC dX12_barring_37 rfl rfl ?_
        refine r_callV hC (d_m_barsChoice hw) rfl kC12_barsChoice km12_263 kI12_barsChoice kS12_barsChoice kN12 dd_12_barsChoice ⟨Nat.le_of_ble_eq_true rfl, Nat.le_of_ble_eq_true rfl⟩ rfl (Nat.le_of_ble_eq_true rfl) dX12_barring_38 (fun r M' hp => ?_)
        obtain ⟨a18, rfl, hw⟩ := hp
        try dsimp only at hw
        obtain ⟨o20, hw⟩ := hw
        obtain ⟨hwt, hwf⟩ := hw
        refine r_if_eq hC 50 dX12_barring_41 (by decide) o20.1 o20.2 (fun c22 => ?_) (fun c22 => ?_)
        · have hw := hwt c22
          refine r_iconst hC dX12_barring_50 ?_
          refine r_ior hC dX12_barring_51 ?_
          refine r_istore_n hC dX12_barring_52 rfl (by decide) ?_
          refine r_iinc hC dX12_barring_53 rfl (by decide) ?_
          refine r_goto hC 8 dX12_barring_56 (by decide) ?_
          exact r_subk (hX8 _ _ _ hw) ⟨rfl, rfl, rfl, rfl, trivial⟩
        · have hw := hwf c22
          refine r_iconst hC dX12_barring_44 ?_
          refine r_iload_n hC dX12_barring_45 rfl rfl ?_
          refine r_ishl hC dX12_barring_46 ?_
          refine r_goto hC 51 dX12_barring_47 (by decide) ?_
          refine r_ior hC dX12_barring_51 ?_
          refine r_istore_n hC dX12_barring_52 rfl (by decide) ?_
          refine r_iinc hC dX12_barring_53 rfl (by decide) ?_
          refine r_goto hC 8 dX12_barring_56 (by decide) ?_
          exact r_subk (hX8 _ _ _ hw) ⟨rfl, rfl, rfl, rfl, trivial⟩
def w_m_barring_L0 (Q : Int → Mem → Prop) (x1 : Int) (x2 : Int) (x3 : Int) (M : Mem) : Prop :=
  ∀ X : Int → Int → Mem → Prop, (∀ (x2 : Int) (x3 : Int) (M : Mem), w_m_barring_B0 Q x1 X x2 x3 M → X x2 x3 M) → X x2 x3 M
set_option maxRecDepth 100000 in
set_option maxHeartbeats 4000000 in
theorem s_m_barring_L0 {Q : Int → Mem → Prop} {x1 : Int} {x2 : Int} {x3 : Int} {M : Mem} (hC : rC p R s m args meth c cells slots D aC ad 4 cX12_barring RX12 6 143 (some .int)) (hQ : ∀ (pc : Nat) (L : List (Nat × RV)) (z : Int) (M : Mem), decode cX12_barring pc = .ok (.ireturn, 1) → Q z M → rG p l e R s m args below meth c cells slots Qs D aC ad 4 pc L [vI z] M) (hw : w_m_barring_L0 Q x1 x2 x3 M) : rG p l e R s m args below meth c cells slots Qs D aC ad 4 8 [(0, vR 12), (1, vI x1), (2, vI x2), (3, vI x3)] [] M := by
  unfold w_m_barring_L0 at hw
  exact hw (fun x2 x3 M => rG p l e R s m args below meth c cells slots Qs D aC ad 4 8 [(0, vR 12), (1, vI x1), (2, vI x2), (3, vI x3)] [] M) (fun x2 x3 M hb => s_m_barring_B0 hC hQ (fun _ _ _ h => h) hb)
def w_m_barring (M : Mem) (x1 : Int) (Q : Int → Mem → Prop) : Prop :=
  w_m_forget M (fun M2 => w_m_barring_L0 Q x1 0 0 M2)
set_option maxRecDepth 100000 in
set_option maxHeartbeats 4000000 in
theorem s_m_barring {M : Mem} {x1 : Int} {Q : Int → Mem → Prop} (hC : rC p R s m args meth c cells slots D aC ad 4 cX12_barring RX12 6 143 (some .int)) (hQ : ∀ (pc : Nat) (L : List (Nat × RV)) (z : Int) (M : Mem), decode cX12_barring pc = .ok (.ireturn, 1) → Q z M → rG p l e R s m args below meth c cells slots Qs D aC ad 4 pc L [vI z] M) (hw : w_m_barring M x1 Q) : rG p l e R s m args below meth c cells slots Qs D aC ad 4 0 [(0, vR 12), (1, vI x1)] [] M := by
  unfold w_m_barring at hw
  refine r_iconst hC dX12_barring_0 ?_
  refine r_istore_n hC dX12_barring_1 rfl (by decide) ?_
  refine r_aload_n hC dX12_barring_2 rfl rfl ?_
  refine r_callV hC (d_m_forget hw) rfl kC12_forget km12_260 kI12_forget kS12_forget kN12 dd_12_forget ⟨Nat.le_of_ble_eq_true rfl, Nat.le_of_ble_eq_true rfl⟩ rfl (Nat.le_of_ble_eq_true rfl) dX12_barring_3 (fun r M' hp => ?_)
  obtain ⟨rfl, hw⟩ := hp
  try dsimp only at hw
  refine r_iconst hC dX12_barring_6 ?_
  refine r_istore_n hC dX12_barring_7 rfl (by decide) ?_
  exact r_subk (s_m_barring_L0 hC hQ hw) ⟨rfl, rfl, rfl, rfl, trivial⟩
set_option maxRecDepth 100000 in
set_option maxHeartbeats 4000000 in
theorem d_m_barring {l : Launch} {D : va_G} {aC : Nat → ClassId} {ad : Nat → Nat} {M : Mem} {x1 : Int} {Q : Int → Mem → Prop} (hw : w_m_barring M x1 Q) : Does l D aC ad yX12_barring cX12_barring 4 (some .int) 6 143 [vR 12, vI x1] M (pI Q) :=
  Does.of (by decide) (Nat.le_of_ble_eq_true rfl) (fun p e R s m args below meth c hC => r_subk (s_m_barring hC (fun pc L z M d h => r_iret hC d ⟨z, rfl, h⟩) hw) ⟨rfl, rfl, trivial⟩)
/-- SoupSandModel.bits -/
def w_m_bits_B0 (Q : Int → Prop) (x0 : Int) (M : Mem) (X4 : Int → Int → Prop) (x1 : Int) (x2 : Int) : Prop :=
  (-2147483648 ≤ x2 ∧ x2 ≤ 2147483647) ∧ ((16 ≤ x2 → Q x1) ∧ (¬ (16 ≤ x2) → X4 (x1 + (bAnd (bShr x0 x2) 1)) (x2 + 1)))
set_option maxRecDepth 100000 in
set_option maxHeartbeats 4000000 in
theorem s_m_bits_B0 {Q : Int → Prop} {x0 : Int} {M : Mem} {X4 : Int → Int → Prop} {x1 : Int} {x2 : Int} (hC : rC p R s m args meth c cells slots D aC ad 3 cX12_bits RX12 0 0 (some .int)) (hQ : ∀ (pc : Nat) (L : List (Nat × RV)) (z : Int), decode cX12_bits pc = .ok (.ireturn, 1) → Q z → rG p l e R s m args below meth c cells slots Qs D aC ad 3 pc L [vI z] M) (hX4 : ∀ (x1 : Int) (x2 : Int), X4 x1 x2 → rG p l e R s m args below meth c cells slots Qs D aC ad 3 4 [(0, vI x0), (1, vI x1), (2, vI x2)] [] M) (hw : w_m_bits_B0 Q x0 M X4 x1 x2) : rG p l e R s m args below meth c cells slots Qs D aC ad 3 4 [(0, vI x0), (1, vI x1), (2, vI x2)] [] M := by
  unfold w_m_bits_B0 at hw
  refine r_iload_n hC dX12_bits_4 rfl rfl ?_
  refine r_bipush hC dX12_bits_5 (by decide) ?_
  obtain ⟨o1, hw⟩ := hw
  obtain ⟨hwt, hwf⟩ := hw
  refine r_icmp_ge hC 24 dX12_bits_7 (by decide) o1.1 o1.2 (by decide) (by decide) (fun c3 => ?_) (fun c3 => ?_)
  · have hw := hwt c3
    refine r_iload_n hC dX12_bits_24 rfl rfl ?_
    exact hQ _ _ _ dX12_bits_25 hw
  · have hw := hwf c3
    refine r_iload_n hC dX12_bits_10 rfl rfl ?_
    refine r_iload_n hC dX12_bits_11 rfl rfl ?_
    refine r_iload_n hC dX12_bits_12 rfl rfl ?_
    refine r_ishr hC dX12_bits_13 ?_
    refine r_iconst hC dX12_bits_14 ?_
    refine r_iand hC dX12_bits_15 ?_
    refine r_iadd hC dX12_bits_16 ?_
    refine r_istore_n hC dX12_bits_17 rfl (by decide) ?_
    refine r_iinc hC dX12_bits_18 rfl (by decide) ?_
    refine r_goto hC 4 dX12_bits_21 (by decide) ?_
    exact r_subk (hX4 _ _ hw) ⟨rfl, rfl, rfl, trivial⟩
def w_m_bits_L0 (Q : Int → Prop) (x0 : Int) (M : Mem) (x1 : Int) (x2 : Int) : Prop :=
  ∀ X : Int → Int → Prop, (∀ (x1 : Int) (x2 : Int), w_m_bits_B0 Q x0 M X x1 x2 → X x1 x2) → X x1 x2
set_option maxRecDepth 100000 in
set_option maxHeartbeats 4000000 in
theorem s_m_bits_L0 {Q : Int → Prop} {x0 : Int} {M : Mem} {x1 : Int} {x2 : Int} (hC : rC p R s m args meth c cells slots D aC ad 3 cX12_bits RX12 0 0 (some .int)) (hQ : ∀ (pc : Nat) (L : List (Nat × RV)) (z : Int), decode cX12_bits pc = .ok (.ireturn, 1) → Q z → rG p l e R s m args below meth c cells slots Qs D aC ad 3 pc L [vI z] M) (hw : w_m_bits_L0 Q x0 M x1 x2) : rG p l e R s m args below meth c cells slots Qs D aC ad 3 4 [(0, vI x0), (1, vI x1), (2, vI x2)] [] M := by
  unfold w_m_bits_L0 at hw
  exact hw (fun x1 x2 => rG p l e R s m args below meth c cells slots Qs D aC ad 3 4 [(0, vI x0), (1, vI x1), (2, vI x2)] [] M) (fun x1 x2 hb => s_m_bits_B0 hC hQ (fun _ _ h => h) hb)
def w_m_bits (M : Mem) (x0 : Int) (Q : Int → Prop) : Prop :=
  w_m_bits_L0 Q x0 M 0 0
set_option maxRecDepth 100000 in
set_option maxHeartbeats 4000000 in
theorem s_m_bits {M : Mem} {x0 : Int} {Q : Int → Prop} (hC : rC p R s m args meth c cells slots D aC ad 3 cX12_bits RX12 0 0 (some .int)) (hQ : ∀ (pc : Nat) (L : List (Nat × RV)) (z : Int), decode cX12_bits pc = .ok (.ireturn, 1) → Q z → rG p l e R s m args below meth c cells slots Qs D aC ad 3 pc L [vI z] M) (hw : w_m_bits M x0 Q) : rG p l e R s m args below meth c cells slots Qs D aC ad 3 0 [(0, vI x0)] [] M := by
  unfold w_m_bits at hw
  refine r_iconst hC dX12_bits_0 ?_
  refine r_istore_n hC dX12_bits_1 rfl (by decide) ?_
  refine r_iconst hC dX12_bits_2 ?_
  refine r_istore_n hC dX12_bits_3 rfl (by decide) ?_
  exact r_subk (s_m_bits_L0 hC hQ hw) ⟨rfl, rfl, rfl, trivial⟩
set_option maxRecDepth 100000 in
set_option maxHeartbeats 4000000 in
theorem d_m_bits {l : Launch} {D : va_G} {aC : Nat → ClassId} {ad : Nat → Nat} {M : Mem} {x0 : Int} {Q : Int → Prop} (hw : w_m_bits M x0 Q) : Does l D aC ad yX12_bits cX12_bits 3 (some .int) 0 0 [vI x0] M (qI M Q) :=
  Does.of (by decide) (Nat.le_of_ble_eq_true rfl) (fun p e R s m args below meth c hC => r_subk (s_m_bits hC (fun pc L z d h => r_iret hC d ⟨rfl, ⟨z, rfl, h⟩⟩) hw) ⟨rfl, trivial⟩)
theorem dd_12_barring : yX12_barring.cls ≠ "java/lang/invoke/MethodHandle" ∧ yX12_barring.cls ≠ "java/lang/invoke/VarHandle" ∧ (parseMethodDescriptor yX12_barring.desc).map (fun d => d.parameters.length) = some 1 := by decide +kernel
theorem dd_12_bits : yX12_bits.cls ≠ "java/lang/invoke/MethodHandle" ∧ yX12_bits.cls ≠ "java/lang/invoke/VarHandle" ∧ (parseMethodDescriptor yX12_bits.desc).map (fun d => d.parameters.length) = some 1 := by decide +kernel
/-- SoupSandModel.toStrike -/
def w_m_toStrike_j0 (Q : Int → Mem → Prop) (X19 : Int → Int → Mem → Prop) (x1 : Int) (x2 : Int) (x3 : Int) (x4 : Int) (s0 : Int) (M : Mem) : Prop :=
  (-2147483648 ≤ s0 ∧ s0 ≤ 2147483647) ∧ ((s0 = 0 → X19 x2 (x3 + 1) M) ∧ (¬ (s0 = 0) → X19 x4 (x3 + 1) M))
set_option maxRecDepth 100000 in
set_option maxHeartbeats 4000000 in
theorem s_m_toStrike_j0 {Q : Int → Mem → Prop} {X19 : Int → Int → Mem → Prop} {x1 : Int} {x2 : Int} {x3 : Int} {x4 : Int} {s0 : Int} {M : Mem} (hC : rC p R s m args meth c cells slots D aC ad 6 cX12_toStrike RX12 7 166 (some .int)) (hQ : ∀ (pc : Nat) (L : List (Nat × RV)) (z : Int) (M : Mem), decode cX12_toStrike pc = .ok (.ireturn, 1) → Q z M → rG p l e R s m args below meth c cells slots Qs D aC ad 6 pc L [vI z] M) (hX19 : ∀ (x2 : Int) (x3 : Int) (M : Mem), X19 x2 x3 M → rG p l e R s m args below meth c cells slots Qs D aC ad 6 19 [(0, vR 12), (1, vI x1), (2, vI x2), (3, vI x3)] [] M) (hw : w_m_toStrike_j0 Q X19 x1 x2 x3 x4 s0 M) : rG p l e R s m args below meth c cells slots Qs D aC ad 6 80 [(0, vR 12), (1, vI x1), (2, vI x2), (3, vI x3), (4, vI x4)] [vI s0] M := by
  unfold w_m_toStrike_j0 at hw
  refine r_istore hC dX12_toStrike_80 (by decide) ?_
  refine r_iload hC dX12_toStrike_82 rfl ?_
  obtain ⟨o1, hw⟩ := hw
  obtain ⟨hwt, hwf⟩ := hw
  refine r_if_eq hC 92 dX12_toStrike_84 (by decide) o1.1 o1.2 (fun c3 => ?_) (fun c3 => ?_)
  · have hw := hwt c3
    refine r_iload_n hC dX12_toStrike_92 rfl rfl ?_
    refine r_istore_n hC dX12_toStrike_93 rfl (by decide) ?_
    refine r_iinc hC dX12_toStrike_94 rfl (by decide) ?_
    refine r_goto hC 19 dX12_toStrike_97 (by decide) ?_
    exact r_subk (hX19 _ _ _ hw) ⟨rfl, rfl, rfl, rfl, trivial⟩
  · have hw := hwf c3
    refine r_iload hC dX12_toStrike_87 rfl ?_
    refine r_goto hC 93 dX12_toStrike_89 (by decide) ?_
    refine r_istore_n hC dX12_toStrike_93 rfl (by decide) ?_
    refine r_iinc hC dX12_toStrike_94 rfl (by decide) ?_
    refine r_goto hC 19 dX12_toStrike_97 (by decide) ?_
    exact r_subk (hX19 _ _ _ hw) ⟨rfl, rfl, rfl, rfl, trivial⟩
def w_m_toStrike_B0 (Q : Int → Mem → Prop) (x1 : Int) (X19 : Int → Int → Mem → Prop) (x2 : Int) (x3 : Int) (M : Mem) : Prop :=
  w_m_manyChoices M x1 (fun a1 => (-2147483648 ≤ x3 ∧ x3 ≤ 2147483647) ∧ ((-2147483648 ≤ a1 ∧ a1 ≤ 2147483647) ∧ ((a1 ≤ x3 → Q x2 M) ∧ (¬ (a1 ≤ x3) → w_m_choose M x1 x3 (fun M6 => w_m_barring M6 x1 (fun a7 M8 => (-2147483648 ≤ x2 ∧ x2 ≤ 2147483647) ∧ ((x2 < 0 → w_m_toStrike_j0 Q X19 x1 x2 x3 a7 1 M8) ∧ (¬ (x2 < 0) → w_m_bits M8 a7 (fun a12 => w_m_bits M8 x2 (fun a13 => (-2147483648 ≤ a12 ∧ a12 ≤ 2147483647) ∧ ((-2147483648 ≤ a13 ∧ a13 ≤ 2147483647) ∧ ((a12 < a13 → w_m_toStrike_j0 Q X19 x1 x2 x3 a7 1 M8) ∧ (¬ (a12 < a13) → w_m_bits M8 a7 (fun a17 => w_m_bits M8 x2 (fun a18 => (-2147483648 ≤ a17 ∧ a17 ≤ 2147483647) ∧ ((-2147483648 ≤ a18 ∧ a18 ≤ 2147483647) ∧ ((¬ (a17 = a18) → w_m_toStrike_j0 Q X19 x1 x2 x3 a7 0 M8) ∧ (a17 = a18 → (-2147483648 ≤ a7 ∧ a7 ≤ 2147483647) ∧ ((-2147483648 ≤ x2 ∧ x2 ≤ 2147483647) ∧ ((x2 ≤ a7 → w_m_toStrike_j0 Q X19 x1 x2 x3 a7 0 M8) ∧ (¬ (x2 ≤ a7) → w_m_toStrike_j0 Q X19 x1 x2 x3 a7 1 M8)))))))))))))))))))))
set_option maxRecDepth 100000 in
set_option maxHeartbeats 4000000 in
theorem s_m_toStrike_B0 {Q : Int → Mem → Prop} {x1 : Int} {X19 : Int → Int → Mem → Prop} {x2 : Int} {x3 : Int} {M : Mem} (hC : rC p R s m args meth c cells slots D aC ad 6 cX12_toStrike RX12 7 166 (some .int)) (hQ : ∀ (pc : Nat) (L : List (Nat × RV)) (z : Int) (M : Mem), decode cX12_toStrike pc = .ok (.ireturn, 1) → Q z M → rG p l e R s m args below meth c cells slots Qs D aC ad 6 pc L [vI z] M) (hX19 : ∀ (x2 : Int) (x3 : Int) (M : Mem), X19 x2 x3 M → rG p l e R s m args below meth c cells slots Qs D aC ad 6 19 [(0, vR 12), (1, vI x1), (2, vI x2), (3, vI x3)] [] M) (hw : w_m_toStrike_B0 Q x1 X19 x2 x3 M) : rG p l e R s m args below meth c cells slots Qs D aC ad 6 19 [(0, vR 12), (1, vI x1), (2, vI x2), (3, vI x3)] [] M := by
  unfold w_m_toStrike_B0 at hw
  refine r_iload_n hC dX12_toStrike_19 rfl rfl ?_
  refine r_aload_n hC dX12_toStrike_20 rfl rfl ?_
  refine r_iload_n hC dX12_toStrike_21 rfl rfl ?_
  refine r_callV hC (d_m_manyChoices hw) rfl kC12_manyChoices km12_266 kI12_manyChoices kS12_manyChoices kN12 dd_12_manyChoices ⟨Nat.le_of_ble_eq_true rfl, Nat.le_of_ble_eq_true rfl⟩ rfl (Nat.le_of_ble_eq_true rfl) dX12_toStrike_22 (fun r M' hp => ?_)
  obtain ⟨rfl, a1, rfl, hw⟩ := hp
  try dsimp only at hw
  obtain ⟨o2, hw⟩ := hw
  obtain ⟨o3, hw⟩ := hw
  obtain ⟨hwt, hwf⟩ := hw
  refine r_icmp_ge hC 100 dX12_toStrike_25 (by decide) o2.1 o2.2 o3.1 o3.2 (fun c4 => ?_) (fun c4 => ?_)
  · have hw := hwt c4
    refine r_iload_n hC dX12_toStrike_100 rfl rfl ?_
    exact hQ _ _ _ _ dX12_toStrike_101 hw
  · have hw := hwf c4
    refine r_aload_n hC dX12_toStrike_28 rfl rfl ?_
    refine r_iload_n hC dX12_toStrike_29 rfl rfl ?_
    refine r_iload_n hC dX12_toStrike_30 rfl rfl ?_
    refine r_callV hC (d_m_choose hw) rfl kC12_choose km12_246 kI12_choose kS12_choose kN12 dd_12_choose ⟨Nat.le_of_ble_eq_true rfl, Nat.le_of_ble_eq_true rfl⟩ rfl (Nat.le_of_ble_eq_true rfl) dX12_toStrike_31 (fun r M' hp => ?_)
    obtain ⟨rfl, hw⟩ := hp
    try dsimp only at hw
    refine r_aload_n hC dX12_toStrike_34 rfl rfl ?_
    refine r_iload_n hC dX12_toStrike_35 rfl rfl ?_
    refine r_callV hC (d_m_barring hw) rfl kC12_barring km12_270 kI12_barring kS12_barring kN12 dd_12_barring ⟨Nat.le_of_ble_eq_true rfl, Nat.le_of_ble_eq_true rfl⟩ rfl (Nat.le_of_ble_eq_true rfl) dX12_toStrike_36 (fun r M' hp => ?_)
    obtain ⟨a7, rfl, hw⟩ := hp
    try dsimp only at hw
    refine r_istore hC dX12_toStrike_39 (by decide) ?_
    refine r_iload_n hC dX12_toStrike_41 rfl rfl ?_
    obtain ⟨o9, hw⟩ := hw
    obtain ⟨hwt, hwf⟩ := hw
    refine r_if_lt hC 75 dX12_toStrike_42 (by decide) o9.1 o9.2 (fun c11 => ?_) (fun c11 => ?_)
    · have hw := hwt c11
      refine r_iconst hC dX12_toStrike_75 ?_
      refine r_goto hC 80 dX12_toStrike_76 (by decide) ?_
      exact r_subk (s_m_toStrike_j0 hC hQ hX19 hw) ⟨rfl, rfl, rfl, rfl, rfl, trivial⟩
    · have hw := hwf c11
      refine r_iload hC dX12_toStrike_45 rfl ?_
      refine r_callS hC (d_m_bits hw) kC12_bits km12_273 kT12_bits kN12 dd_12_bits ⟨Nat.le_of_ble_eq_true rfl, Nat.le_of_ble_eq_true rfl⟩ rfl (Nat.le_of_ble_eq_true rfl) dX12_toStrike_47 (fun r M' hp => ?_)
      obtain ⟨rfl, a12, rfl, hw⟩ := hp
      try dsimp only at hw
      refine r_iload_n hC dX12_toStrike_50 rfl rfl ?_
      refine r_callS hC (d_m_bits hw) kC12_bits km12_273 kT12_bits kN12 dd_12_bits ⟨Nat.le_of_ble_eq_true rfl, Nat.le_of_ble_eq_true rfl⟩ rfl (Nat.le_of_ble_eq_true rfl) dX12_toStrike_51 (fun r M' hp => ?_)
      obtain ⟨rfl, a13, rfl, hw⟩ := hp
      try dsimp only at hw
      obtain ⟨o14, hw⟩ := hw
      obtain ⟨o15, hw⟩ := hw
      obtain ⟨hwt, hwf⟩ := hw
      refine r_icmp_lt hC 75 dX12_toStrike_54 (by decide) o14.1 o14.2 o15.1 o15.2 (fun c16 => ?_) (fun c16 => ?_)
      · have hw := hwt c16
        refine r_iconst hC dX12_toStrike_75 ?_
        refine r_goto hC 80 dX12_toStrike_76 (by decide) ?_
        exact r_subk (s_m_toStrike_j0 hC hQ hX19 hw) ⟨rfl, rfl, rfl, rfl, rfl, trivial⟩
      · have hw := hwf c16
        refine r_iload hC dX12_toStrike_57 rfl ?_
        refine r_callS hC (d_m_bits hw) kC12_bits km12_273 kT12_bits kN12 dd_12_bits ⟨Nat.le_of_ble_eq_true rfl, Nat.le_of_ble_eq_true rfl⟩ rfl (Nat.le_of_ble_eq_true rfl) dX12_toStrike_59 (fun r M' hp => ?_)
        obtain ⟨rfl, a17, rfl, hw⟩ := hp
        try dsimp only at hw
        refine r_iload_n hC dX12_toStrike_62 rfl rfl ?_
        refine r_callS hC (d_m_bits hw) kC12_bits km12_273 kT12_bits kN12 dd_12_bits ⟨Nat.le_of_ble_eq_true rfl, Nat.le_of_ble_eq_true rfl⟩ rfl (Nat.le_of_ble_eq_true rfl) dX12_toStrike_63 (fun r M' hp => ?_)
        obtain ⟨rfl, a18, rfl, hw⟩ := hp
        try dsimp only at hw
        obtain ⟨o19, hw⟩ := hw
        obtain ⟨o20, hw⟩ := hw
        obtain ⟨hwt, hwf⟩ := hw
        refine r_icmp_ne hC 79 dX12_toStrike_66 (by decide) o19.1 o19.2 o20.1 o20.2 (fun c21 => ?_) (fun c21 => ?_)
        · have hw := hwt c21
          refine r_iconst hC dX12_toStrike_79 ?_
          exact r_subk (s_m_toStrike_j0 hC hQ hX19 hw) ⟨rfl, rfl, rfl, rfl, rfl, trivial⟩
        · have hw := hwf c21
          refine r_iload hC dX12_toStrike_69 rfl ?_
          refine r_iload_n hC dX12_toStrike_71 rfl rfl ?_
          obtain ⟨o22, hw⟩ := hw
          obtain ⟨o23, hw⟩ := hw
          obtain ⟨hwt, hwf⟩ := hw
          refine r_icmp_ge hC 79 dX12_toStrike_72 (by decide) o22.1 o22.2 o23.1 o23.2 (fun c24 => ?_) (fun c24 => ?_)
          · have hw := hwt c24
            refine r_iconst hC dX12_toStrike_79 ?_
            exact r_subk (s_m_toStrike_j0 hC hQ hX19 hw) ⟨rfl, rfl, rfl, rfl, rfl, trivial⟩
          · have hw := hwf c24
            refine r_iconst hC dX12_toStrike_75 ?_
            refine r_goto hC 80 dX12_toStrike_76 (by decide) ?_
            exact r_subk (s_m_toStrike_j0 hC hQ hX19 hw) ⟨rfl, rfl, rfl, rfl, rfl, trivial⟩
def w_m_toStrike_L0 (Q : Int → Mem → Prop) (x1 : Int) (x2 : Int) (x3 : Int) (M : Mem) : Prop :=
  ∀ X : Int → Int → Mem → Prop, (∀ (x2 : Int) (x3 : Int) (M : Mem), w_m_toStrike_B0 Q x1 X x2 x3 M → X x2 x3 M) → X x2 x3 M
set_option maxRecDepth 100000 in
set_option maxHeartbeats 4000000 in
theorem s_m_toStrike_L0 {Q : Int → Mem → Prop} {x1 : Int} {x2 : Int} {x3 : Int} {M : Mem} (hC : rC p R s m args meth c cells slots D aC ad 6 cX12_toStrike RX12 7 166 (some .int)) (hQ : ∀ (pc : Nat) (L : List (Nat × RV)) (z : Int) (M : Mem), decode cX12_toStrike pc = .ok (.ireturn, 1) → Q z M → rG p l e R s m args below meth c cells slots Qs D aC ad 6 pc L [vI z] M) (hw : w_m_toStrike_L0 Q x1 x2 x3 M) : rG p l e R s m args below meth c cells slots Qs D aC ad 6 19 [(0, vR 12), (1, vI x1), (2, vI x2), (3, vI x3)] [] M := by
  unfold w_m_toStrike_L0 at hw
  exact hw (fun x2 x3 M => rG p l e R s m args below meth c cells slots Qs D aC ad 6 19 [(0, vR 12), (1, vI x1), (2, vI x2), (3, vI x3)] [] M) (fun x2 x3 M hb => s_m_toStrike_B0 hC hQ (fun _ _ _ h => h) hb)
def w_m_toStrike (M : Mem) (x1 : Int) (Q : Int → Mem → Prop) : Prop :=
  w_m_isColumn M x1 (fun a1 => (-2147483648 ≤ a1 ∧ a1 ≤ 2147483647) ∧ ((¬ (a1 = 0) → w_m_plain M (fun M6 => w_m_toStrike_L0 Q x1 (-1) 0 M6)) ∧ (a1 = 0 → Q (-1001) M)))
set_option maxRecDepth 100000 in
set_option maxHeartbeats 4000000 in
theorem s_m_toStrike {M : Mem} {x1 : Int} {Q : Int → Mem → Prop} (hC : rC p R s m args meth c cells slots D aC ad 6 cX12_toStrike RX12 7 166 (some .int)) (hQ : ∀ (pc : Nat) (L : List (Nat × RV)) (z : Int) (M : Mem), decode cX12_toStrike pc = .ok (.ireturn, 1) → Q z M → rG p l e R s m args below meth c cells slots Qs D aC ad 6 pc L [vI z] M) (hw : w_m_toStrike M x1 Q) : rG p l e R s m args below meth c cells slots Qs D aC ad 6 0 [(0, vR 12), (1, vI x1)] [] M := by
  unfold w_m_toStrike at hw
  refine r_iload_n hC dX12_toStrike_0 rfl rfl ?_
  refine r_callS hC (d_m_isColumn hw) kC12_isColumn km12_169 kT12_isColumn kN12 dd_12_isColumn ⟨Nat.le_of_ble_eq_true rfl, Nat.le_of_ble_eq_true rfl⟩ rfl (Nat.le_of_ble_eq_true rfl) dX12_toStrike_1 (fun r M' hp => ?_)
  obtain ⟨rfl, a1, rfl, hw⟩ := hp
  try dsimp only at hw
  obtain ⟨o2, hw⟩ := hw
  obtain ⟨hwt, hwf⟩ := hw
  refine r_if_ne hC 11 dX12_toStrike_4 (by decide) o2.1 o2.2 (fun c4 => ?_) (fun c4 => ?_)
  · have hw := hwt c4
    refine r_aload_n hC dX12_toStrike_11 rfl rfl ?_
    refine r_callV hC (d_m_plain hw) rfl kC12_plain km12_243 kI12_plain kS12_plain kN12 dd_12_plain ⟨Nat.le_of_ble_eq_true rfl, Nat.le_of_ble_eq_true rfl⟩ rfl (Nat.le_of_ble_eq_true rfl) dX12_toStrike_12 (fun r M' hp => ?_)
    obtain ⟨rfl, hw⟩ := hp
    try dsimp only at hw
    refine r_iconst hC dX12_toStrike_15 ?_
    refine r_istore_n hC dX12_toStrike_16 rfl (by decide) ?_
    refine r_iconst hC dX12_toStrike_17 ?_
    refine r_istore_n hC dX12_toStrike_18 rfl (by decide) ?_
    exact r_subk (s_m_toStrike_L0 hC hQ hw) ⟨rfl, rfl, rfl, rfl, trivial⟩
  · have hw := hwf c4
    refine r_sipush hC dX12_toStrike_7 (by decide) ?_
    exact hQ _ _ _ _ dX12_toStrike_10 hw
set_option maxRecDepth 100000 in
set_option maxHeartbeats 4000000 in
theorem d_m_toStrike {l : Launch} {D : va_G} {aC : Nat → ClassId} {ad : Nat → Nat} {M : Mem} {x1 : Int} {Q : Int → Mem → Prop} (hw : w_m_toStrike M x1 Q) : Does l D aC ad yX12_toStrike cX12_toStrike 6 (some .int) 7 166 [vR 12, vI x1] M (pI Q) :=
  Does.of (by decide) (Nat.le_of_ble_eq_true rfl) (fun p e R s m args below meth c hC => r_subk (s_m_toStrike hC (fun pc L z M d h => r_iret hC d ⟨z, rfl, h⟩) hw) ⟨rfl, rfl, trivial⟩)
/-- SoupSandModel.findKept -/
def w_m_findKept_j0 (Q : Int → Mem → Prop) (X24 : Int → Int → Mem → Prop) (x1 : Int) (x2 : Int) (x3 : Int) (s1 : Int) (s2 : Int) (M : Mem) : Prop :=
  ((0 ≤ s1 ∧ s1 < 4374) ∧ (0 ≤ s2 ∧ s2 ≤ 1)) ∧ (∀ M2 : Mem, M2 = mset M 82 s1 s2 → (0 ≤ (729 * x1) + x3 ∧ (729 * x1) + x3 < 4374) ∧ (∀ a4 : Int, a4 = M2 82 ((729 * x1) + x3) → 0 ≤ a4 → a4 ≤ 1 → (a4 = 0 → X24 (x2 + 0) (x3 + 1) M2) ∧ (¬ (a4 = 0) → X24 (x2 + 1) (x3 + 1) M2)))
set_option maxRecDepth 100000 in
set_option maxHeartbeats 4000000 in
theorem s_m_findKept_j0 {Q : Int → Mem → Prop} {X24 : Int → Int → Mem → Prop} {x1 : Int} {x2 : Int} {x3 : Int} {s1 : Int} {s2 : Int} {M : Mem} (hC : rC p R s m args meth c cells slots D aC ad 4 cX12_findKept RX12 7 166 (some .int)) (hQ : ∀ (pc : Nat) (L : List (Nat × RV)) (z : Int) (M : Mem), decode cX12_findKept pc = .ok (.ireturn, 1) → Q z M → rG p l e R s m args below meth c cells slots Qs D aC ad 4 pc L [vI z] M) (hX24 : ∀ (x2 : Int) (x3 : Int) (M : Mem), X24 x2 x3 M → rG p l e R s m args below meth c cells slots Qs D aC ad 4 24 [(0, vR 12), (1, vI x1), (2, vI x2), (3, vI x3)] [] M) (hw : w_m_findKept_j0 Q X24 x1 x2 x3 s1 s2 M) : rG p l e R s m args below meth c cells slots Qs D aC ad 4 63 [(0, vR 12), (1, vI x1), (2, vI x2), (3, vI x3)] [vI s2, vI s1, vR 82] M := by
  unfold w_m_findKept_j0 at hw
  obtain ⟨o1, hw⟩ := hw
  refine r_zast hC rfl o1.1.1 o1.1.2 (by decide) (by decide) o1.2.1 o1.2.2 (vnar_z o1.2.1 o1.2.2) dX12_findKept_63 ?_
  replace hw := hw _ rfl
  refine r_iload_n hC dX12_findKept_64 rfl rfl ?_
  refine r_aload_n hC dX12_findKept_65 rfl rfl ?_
  refine r_getR hC 34 rfl (by decide) kf12_98 rfl rfl dX12_findKept_66 ?_
  refine r_sipush hC dX12_findKept_69 (by decide) ?_
  refine r_iload_n hC dX12_findKept_72 rfl rfl ?_
  refine r_imul hC dX12_findKept_73 ?_
  refine r_iload_n hC dX12_findKept_74 rfl rfl ?_
  refine r_iadd hC dX12_findKept_75 ?_
  obtain ⟨o3, hw⟩ := hw
  refine r_zald hC rfl o3.1 o3.2 (by decide) (by decide) dX12_findKept_76 (fun b5 b5' => ?_)
  replace hw := hw _ rfl b5 b5'
  obtain ⟨hwt, hwf⟩ := hw
  refine r_if_eq hC 84 dX12_findKept_77 (by decide) (by omega) (by omega) (fun c8 => ?_) (fun c8 => ?_)
  · have hw := hwt c8
    refine r_iconst hC dX12_findKept_84 ?_
    refine r_iadd hC dX12_findKept_85 ?_
    refine r_istore_n hC dX12_findKept_86 rfl (by decide) ?_
    refine r_iinc hC dX12_findKept_87 rfl (by decide) ?_
    refine r_goto hC 24 dX12_findKept_90 (by decide) ?_
    exact r_subk (hX24 _ _ _ hw) ⟨rfl, rfl, rfl, rfl, trivial⟩
  · have hw := hwf c8
    refine r_iconst hC dX12_findKept_80 ?_
    refine r_goto hC 85 dX12_findKept_81 (by decide) ?_
    refine r_iadd hC dX12_findKept_85 ?_
    refine r_istore_n hC dX12_findKept_86 rfl (by decide) ?_
    refine r_iinc hC dX12_findKept_87 rfl (by decide) ?_
    refine r_goto hC 24 dX12_findKept_90 (by decide) ?_
    exact r_subk (hX24 _ _ _ hw) ⟨rfl, rfl, rfl, rfl, trivial⟩
def w_m_findKept_B0 (Q : Int → Mem → Prop) (x1 : Int) (X24 : Int → Int → Mem → Prop) (x2 : Int) (x3 : Int) (M : Mem) : Prop :=
  w_m_manyChoices M x1 (fun a1 => (-2147483648 ≤ x3 ∧ x3 ≤ 2147483647) ∧ ((-2147483648 ≤ a1 ∧ a1 ≤ 2147483647) ∧ ((a1 ≤ x3 → (0 ≤ x1 ∧ x1 < 6) ∧ (∀ M6 : Mem, M6 = mset M 66 x1 1 → ((0 ≤ x1 ∧ x1 < 6) ∧ (0 ≤ x2 ∧ x2 ≤ 729)) ∧ (∀ M8 : Mem, M8 = mset M6 67 x1 x2 → Q x2 M8))) ∧ (¬ (a1 ≤ x3) → w_m_choose M x1 x3 (fun M10 => w_m_barring M10 x1 (fun a11 M12 => (-2147483648 ≤ a11 ∧ a11 ≤ 2147483647) ∧ ((¬ (a11 = 0) → w_m_findKept_j0 Q X24 x1 x2 x3 ((729 * x1) + x3) 0 M12) ∧ (a11 = 0 → w_m_findKept_j0 Q X24 x1 x2 x3 ((729 * x1) + x3) 1 M12))))))))
set_option maxRecDepth 100000 in
set_option maxHeartbeats 4000000 in
theorem s_m_findKept_B0 {Q : Int → Mem → Prop} {x1 : Int} {X24 : Int → Int → Mem → Prop} {x2 : Int} {x3 : Int} {M : Mem} (hC : rC p R s m args meth c cells slots D aC ad 4 cX12_findKept RX12 7 166 (some .int)) (hQ : ∀ (pc : Nat) (L : List (Nat × RV)) (z : Int) (M : Mem), decode cX12_findKept pc = .ok (.ireturn, 1) → Q z M → rG p l e R s m args below meth c cells slots Qs D aC ad 4 pc L [vI z] M) (hX24 : ∀ (x2 : Int) (x3 : Int) (M : Mem), X24 x2 x3 M → rG p l e R s m args below meth c cells slots Qs D aC ad 4 24 [(0, vR 12), (1, vI x1), (2, vI x2), (3, vI x3)] [] M) (hw : w_m_findKept_B0 Q x1 X24 x2 x3 M) : rG p l e R s m args below meth c cells slots Qs D aC ad 4 24 [(0, vR 12), (1, vI x1), (2, vI x2), (3, vI x3)] [] M := by
  unfold w_m_findKept_B0 at hw
  refine r_iload_n hC dX12_findKept_24 rfl rfl ?_
  refine r_aload_n hC dX12_findKept_25 rfl rfl ?_
  refine r_iload_n hC dX12_findKept_26 rfl rfl ?_
  refine r_callV hC (d_m_manyChoices hw) rfl kC12_manyChoices km12_266 kI12_manyChoices kS12_manyChoices kN12 dd_12_manyChoices ⟨Nat.le_of_ble_eq_true rfl, Nat.le_of_ble_eq_true rfl⟩ rfl (Nat.le_of_ble_eq_true rfl) dX12_findKept_27 (fun r M' hp => ?_)
  obtain ⟨rfl, a1, rfl, hw⟩ := hp
  try dsimp only at hw
  obtain ⟨o2, hw⟩ := hw
  obtain ⟨o3, hw⟩ := hw
  obtain ⟨hwt, hwf⟩ := hw
  refine r_icmp_ge hC 93 dX12_findKept_30 (by decide) o2.1 o2.2 o3.1 o3.2 (fun c4 => ?_) (fun c4 => ?_)
  · have hw := hwt c4
    refine r_aload_n hC dX12_findKept_93 rfl rfl ?_
    refine r_getR hC 14 rfl (by decide) kf12_49 rfl rfl dX12_findKept_94 ?_
    refine r_iload_n hC dX12_findKept_97 rfl rfl ?_
    refine r_iconst hC dX12_findKept_98 ?_
    obtain ⟨o5, hw⟩ := hw
    refine r_zast hC rfl o5.1 o5.2 (by decide) (by decide) (by decide) (by decide) (vnar_z (by decide) (by decide)) dX12_findKept_99 ?_
    replace hw := hw _ rfl
    refine r_aload_n hC dX12_findKept_100 rfl rfl ?_
    refine r_getR hC 15 rfl (by decide) kf12_53 rfl rfl dX12_findKept_101 ?_
    refine r_iload_n hC dX12_findKept_104 rfl rfl ?_
    refine r_iload_n hC dX12_findKept_105 rfl rfl ?_
    obtain ⟨o7, hw⟩ := hw
    refine r_iast hC rfl o7.1.1 o7.1.2 (by decide) (by decide) o7.2.1 o7.2.2 dX12_findKept_106 ?_
    replace hw := hw _ rfl
    refine r_iload_n hC dX12_findKept_107 rfl rfl ?_
    exact hQ _ _ _ _ dX12_findKept_108 hw
  · have hw := hwf c4
    refine r_aload_n hC dX12_findKept_33 rfl rfl ?_
    refine r_iload_n hC dX12_findKept_34 rfl rfl ?_
    refine r_iload_n hC dX12_findKept_35 rfl rfl ?_
    refine r_callV hC (d_m_choose hw) rfl kC12_choose km12_246 kI12_choose kS12_choose kN12 dd_12_choose ⟨Nat.le_of_ble_eq_true rfl, Nat.le_of_ble_eq_true rfl⟩ rfl (Nat.le_of_ble_eq_true rfl) dX12_findKept_36 (fun r M' hp => ?_)
    obtain ⟨rfl, hw⟩ := hp
    try dsimp only at hw
    refine r_aload_n hC dX12_findKept_39 rfl rfl ?_
    refine r_getR hC 34 rfl (by decide) kf12_98 rfl rfl dX12_findKept_40 ?_
    refine r_sipush hC dX12_findKept_43 (by decide) ?_
    refine r_iload_n hC dX12_findKept_46 rfl rfl ?_
    refine r_imul hC dX12_findKept_47 ?_
    refine r_iload_n hC dX12_findKept_48 rfl rfl ?_
    refine r_iadd hC dX12_findKept_49 ?_
    refine r_aload_n hC dX12_findKept_50 rfl rfl ?_
    refine r_iload_n hC dX12_findKept_51 rfl rfl ?_
    refine r_callV hC (d_m_barring hw) rfl kC12_barring km12_270 kI12_barring kS12_barring kN12 dd_12_barring ⟨Nat.le_of_ble_eq_true rfl, Nat.le_of_ble_eq_true rfl⟩ rfl (Nat.le_of_ble_eq_true rfl) dX12_findKept_52 (fun r M' hp => ?_)
    obtain ⟨a11, rfl, hw⟩ := hp
    try dsimp only at hw
    obtain ⟨o13, hw⟩ := hw
    obtain ⟨hwt, hwf⟩ := hw
    refine r_if_ne hC 62 dX12_findKept_55 (by decide) o13.1 o13.2 (fun c15 => ?_) (fun c15 => ?_)
    · have hw := hwt c15
      refine r_iconst hC dX12_findKept_62 ?_
      exact r_subk (s_m_findKept_j0 hC hQ hX24 hw) ⟨rfl, rfl, rfl, rfl, trivial⟩
    · have hw := hwf c15
      refine r_iconst hC dX12_findKept_58 ?_
      refine r_goto hC 63 dX12_findKept_59 (by decide) ?_
      exact r_subk (s_m_findKept_j0 hC hQ hX24 hw) ⟨rfl, rfl, rfl, rfl, trivial⟩
def w_m_findKept_L0 (Q : Int → Mem → Prop) (x1 : Int) (x2 : Int) (x3 : Int) (M : Mem) : Prop :=
  ∀ X : Int → Int → Mem → Prop, (∀ (x2 : Int) (x3 : Int) (M : Mem), w_m_findKept_B0 Q x1 X x2 x3 M → X x2 x3 M) → X x2 x3 M
set_option maxRecDepth 100000 in
set_option maxHeartbeats 4000000 in
theorem s_m_findKept_L0 {Q : Int → Mem → Prop} {x1 : Int} {x2 : Int} {x3 : Int} {M : Mem} (hC : rC p R s m args meth c cells slots D aC ad 4 cX12_findKept RX12 7 166 (some .int)) (hQ : ∀ (pc : Nat) (L : List (Nat × RV)) (z : Int) (M : Mem), decode cX12_findKept pc = .ok (.ireturn, 1) → Q z M → rG p l e R s m args below meth c cells slots Qs D aC ad 4 pc L [vI z] M) (hw : w_m_findKept_L0 Q x1 x2 x3 M) : rG p l e R s m args below meth c cells slots Qs D aC ad 4 24 [(0, vR 12), (1, vI x1), (2, vI x2), (3, vI x3)] [] M := by
  unfold w_m_findKept_L0 at hw
  exact hw (fun x2 x3 M => rG p l e R s m args below meth c cells slots Qs D aC ad 4 24 [(0, vR 12), (1, vI x1), (2, vI x2), (3, vI x3)] [] M) (fun x2 x3 M hb => s_m_findKept_B0 hC hQ (fun _ _ _ h => h) hb)
def w_m_findKept (M : Mem) (x1 : Int) (Q : Int → Mem → Prop) : Prop :=
  w_m_plain M (fun M2 => (0 ≤ x1 ∧ x1 < 6) ∧ (∀ a4 : Int, a4 = M2 66 x1 → 0 ≤ a4 → a4 ≤ 1 → (a4 = 0 → w_m_findKept_L0 Q x1 0 0 M2) ∧ (¬ (a4 = 0) → (0 ≤ x1 ∧ x1 < 6) ∧ (∀ a10 : Int, a10 = M2 67 x1 → 0 ≤ a10 → a10 ≤ 729 → Q a10 M2))))
set_option maxRecDepth 100000 in
set_option maxHeartbeats 4000000 in
theorem s_m_findKept {M : Mem} {x1 : Int} {Q : Int → Mem → Prop} (hC : rC p R s m args meth c cells slots D aC ad 4 cX12_findKept RX12 7 166 (some .int)) (hQ : ∀ (pc : Nat) (L : List (Nat × RV)) (z : Int) (M : Mem), decode cX12_findKept pc = .ok (.ireturn, 1) → Q z M → rG p l e R s m args below meth c cells slots Qs D aC ad 4 pc L [vI z] M) (hw : w_m_findKept M x1 Q) : rG p l e R s m args below meth c cells slots Qs D aC ad 4 0 [(0, vR 12), (1, vI x1)] [] M := by
  unfold w_m_findKept at hw
  refine r_aload_n hC dX12_findKept_0 rfl rfl ?_
  refine r_callV hC (d_m_plain hw) rfl kC12_plain km12_243 kI12_plain kS12_plain kN12 dd_12_plain ⟨Nat.le_of_ble_eq_true rfl, Nat.le_of_ble_eq_true rfl⟩ rfl (Nat.le_of_ble_eq_true rfl) dX12_findKept_1 (fun r M' hp => ?_)
  obtain ⟨rfl, hw⟩ := hp
  try dsimp only at hw
  refine r_aload_n hC dX12_findKept_4 rfl rfl ?_
  refine r_getR hC 14 rfl (by decide) kf12_49 rfl rfl dX12_findKept_5 ?_
  refine r_iload_n hC dX12_findKept_8 rfl rfl ?_
  obtain ⟨o3, hw⟩ := hw
  refine r_zald hC rfl o3.1 o3.2 (by decide) (by decide) dX12_findKept_9 (fun b5 b5' => ?_)
  replace hw := hw _ rfl b5 b5'
  obtain ⟨hwt, hwf⟩ := hw
  refine r_if_eq hC 20 dX12_findKept_10 (by decide) (by omega) (by omega) (fun c8 => ?_) (fun c8 => ?_)
  · have hw := hwt c8
    refine r_iconst hC dX12_findKept_20 ?_
    refine r_istore_n hC dX12_findKept_21 rfl (by decide) ?_
    refine r_iconst hC dX12_findKept_22 ?_
    refine r_istore_n hC dX12_findKept_23 rfl (by decide) ?_
    exact r_subk (s_m_findKept_L0 hC hQ hw) ⟨rfl, rfl, rfl, rfl, trivial⟩
  · have hw := hwf c8
    refine r_aload_n hC dX12_findKept_13 rfl rfl ?_
    refine r_getR hC 15 rfl (by decide) kf12_53 rfl rfl dX12_findKept_14 ?_
    refine r_iload_n hC dX12_findKept_17 rfl rfl ?_
    obtain ⟨o9, hw⟩ := hw
    refine r_iald hC rfl o9.1 o9.2 (by decide) (by decide) dX12_findKept_18 (fun b11 b11' => ?_)
    replace hw := hw _ rfl b11 b11'
    exact hQ _ _ _ _ dX12_findKept_19 hw
set_option maxRecDepth 100000 in
set_option maxHeartbeats 4000000 in
theorem d_m_findKept {l : Launch} {D : va_G} {aC : Nat → ClassId} {ad : Nat → Nat} {M : Mem} {x1 : Int} {Q : Int → Mem → Prop} (hw : w_m_findKept M x1 Q) : Does l D aC ad yX12_findKept cX12_findKept 4 (some .int) 7 166 [vR 12, vI x1] M (pI Q) :=
  Does.of (by decide) (Nat.le_of_ble_eq_true rfl) (fun p e R s m args below meth c hC => r_subk (s_m_findKept hC (fun pc L z M d h => r_iret hC d ⟨z, rfl, h⟩) hw) ⟨rfl, rfl, trivial⟩)
theorem dd_12_findKept : yX12_findKept.cls ≠ "java/lang/invoke/MethodHandle" ∧ yX12_findKept.cls ≠ "java/lang/invoke/VarHandle" ∧ (parseMethodDescriptor yX12_findKept.desc).map (fun d => d.parameters.length) = some 1 := by decide +kernel
/-- SoupSandModel.choices -/
def w_m_choices_B0 (Q : Int → Mem → Prop) (x1 : Int) (x2 : Int) (x3 : Int) (x4 : Int) (x5 : Int) (X87 : Int → Int → Int → Mem → Prop) (x6 : Int) (x7 : Int) (x8 : Int) (M : Mem) : Prop :=
  (-2147483648 ≤ x8 ∧ x8 ≤ 2147483647) ∧ ((x8 < 0 → (-2147483648 ≤ x2 ∧ x2 ≤ 2147483647) ∧ ((¬ (x2 = 0) → (-2147483648 ≤ x2 ∧ x2 ≤ 2147483647) ∧ ((¬ (x2 = 1) → (-2147483648 ≤ x2 ∧ x2 ≤ 2147483647) ∧ ((¬ (x2 = 2) → Q x7 M) ∧ (x2 = 2 → Q x6 M))) ∧ (x2 = 1 → Q x5 M))) ∧ (x2 = 0 → w_m_manyChoices M x1 (fun a13 => Q a13 M)))) ∧ (¬ (x8 < 0) → (0 ≤ (729 * x1) + x8 ∧ (729 * x1) + x8 < 4374) ∧ (∀ a15 : Int, a15 = M 82 ((729 * x1) + x8) → 0 ≤ a15 → a15 ≤ 1 → (a15 = 0 → X87 x6 x7 (x8 + (-1)) M) ∧ (¬ (a15 = 0) → w_m_choose M x1 x8 (fun M21 => (-2147483648 ≤ x2 ∧ x2 ≤ 2147483647) ∧ ((¬ (x2 = 3) → X87 x8 (x7 + 0) (x8 + (-1)) M21) ∧ (x2 = 3 → (0 ≤ x3 ∧ x3 < 6) ∧ (∀ a26 : Int, a26 = M21 68 x3 → 0 ≤ a26 → a26 ≤ 2 → (-2147483648 ≤ x4 ∧ x4 ≤ 2147483647) ∧ ((¬ (a26 = x4) → X87 x8 (x7 + 0) (x8 + (-1)) M21) ∧ (a26 = x4 → X87 x8 (x7 + 1) (x8 + (-1)) M21))))))))))
set_option maxRecDepth 100000 in
set_option maxHeartbeats 4000000 in
theorem s_m_choices_B0 {Q : Int → Mem → Prop} {x1 : Int} {x2 : Int} {x3 : Int} {x4 : Int} {x5 : Int} {X87 : Int → Int → Int → Mem → Prop} {x6 : Int} {x7 : Int} {x8 : Int} {M : Mem} (hC : rC p R s m args meth c cells slots D aC ad 9 cX12_choices RX12 8 189 (some .int)) (hQ : ∀ (pc : Nat) (L : List (Nat × RV)) (z : Int) (M : Mem), decode cX12_choices pc = .ok (.ireturn, 1) → Q z M → rG p l e R s m args below meth c cells slots Qs D aC ad 9 pc L [vI z] M) (hX87 : ∀ (x6 : Int) (x7 : Int) (x8 : Int) (M : Mem), X87 x6 x7 x8 M → rG p l e R s m args below meth c cells slots Qs D aC ad 9 87 [(0, vR 12), (1, vI x1), (2, vI x2), (3, vI x3), (4, vI x4), (5, vI x5), (6, vI x6), (7, vI x7), (8, vI x8)] [] M) (hw : w_m_choices_B0 Q x1 x2 x3 x4 x5 X87 x6 x7 x8 M) : rG p l e R s m args below meth c cells slots Qs D aC ad 9 87 [(0, vR 12), (1, vI x1), (2, vI x2), (3, vI x3), (4, vI x4), (5, vI x5), (6, vI x6), (7, vI x7), (8, vI x8)] [] M := by
  unfold w_m_choices_B0 at hw
  refine r_iload hC dX12_choices_87 rfl ?_
  obtain ⟨o1, hw⟩ := hw
  obtain ⟨hwt, hwf⟩ := hw
  refine r_if_lt hC 151 dX12_choices_89 (by decide) o1.1 o1.2 (fun c3 => ?_) (fun c3 => ?_)
  · have hw := hwt c3
    refine r_iload_n hC dX12_choices_151 rfl rfl ?_
    obtain ⟨o4, hw⟩ := hw
    obtain ⟨hwt, hwf⟩ := hw
    refine r_if_ne hC 163 dX12_choices_152 (by decide) o4.1 o4.2 (fun c6 => ?_) (fun c6 => ?_)
    · have hw := hwt c6
      refine r_iload_n hC dX12_choices_163 rfl rfl ?_
      refine r_iconst hC dX12_choices_164 ?_
      obtain ⟨o7, hw⟩ := hw
      obtain ⟨hwt, hwf⟩ := hw
      refine r_icmp_ne hC 173 dX12_choices_165 (by decide) o7.1 o7.2 (by decide) (by decide) (fun c9 => ?_) (fun c9 => ?_)
      · have hw := hwt c9
        refine r_iload_n hC dX12_choices_173 rfl rfl ?_
        refine r_iconst hC dX12_choices_174 ?_
        obtain ⟨o10, hw⟩ := hw
        obtain ⟨hwt, hwf⟩ := hw
        refine r_icmp_ne hC 183 dX12_choices_175 (by decide) o10.1 o10.2 (by decide) (by decide) (fun c12 => ?_) (fun c12 => ?_)
        · have hw := hwt c12
          refine r_iload hC dX12_choices_183 rfl ?_
          exact hQ _ _ _ _ dX12_choices_185 hw
        · have hw := hwf c12
          refine r_iload hC dX12_choices_178 rfl ?_
          refine r_goto hC 185 dX12_choices_180 (by decide) ?_
          exact hQ _ _ _ _ dX12_choices_185 hw
      · have hw := hwf c9
        refine r_iload hC dX12_choices_168 rfl ?_
        refine r_goto hC 185 dX12_choices_170 (by decide) ?_
        exact hQ _ _ _ _ dX12_choices_185 hw
    · have hw := hwf c6
      refine r_aload_n hC dX12_choices_155 rfl rfl ?_
      refine r_iload_n hC dX12_choices_156 rfl rfl ?_
      refine r_callV hC (d_m_manyChoices hw) rfl kC12_manyChoices km12_266 kI12_manyChoices kS12_manyChoices kN12 dd_12_manyChoices ⟨Nat.le_of_ble_eq_true rfl, Nat.le_of_ble_eq_true rfl⟩ rfl (Nat.le_of_ble_eq_true rfl) dX12_choices_157 (fun r M' hp => ?_)
      obtain ⟨rfl, a13, rfl, hw⟩ := hp
      try dsimp only at hw
      refine r_goto hC 185 dX12_choices_160 (by decide) ?_
      exact hQ _ _ _ _ dX12_choices_185 hw
  · have hw := hwf c3
    refine r_aload_n hC dX12_choices_92 rfl rfl ?_
    refine r_getR hC 34 rfl (by decide) kf12_98 rfl rfl dX12_choices_93 ?_
    refine r_sipush hC dX12_choices_96 (by decide) ?_
    refine r_iload_n hC dX12_choices_99 rfl rfl ?_
    refine r_imul hC dX12_choices_100 ?_
    refine r_iload hC dX12_choices_101 rfl ?_
    refine r_iadd hC dX12_choices_103 ?_
    obtain ⟨o14, hw⟩ := hw
    refine r_zald hC rfl o14.1 o14.2 (by decide) (by decide) dX12_choices_104 (fun b16 b16' => ?_)
    replace hw := hw _ rfl b16 b16'
    obtain ⟨hwt, hwf⟩ := hw
    refine r_if_eq hC 145 dX12_choices_105 (by decide) (by omega) (by omega) (fun c19 => ?_) (fun c19 => ?_)
    · have hw := hwt c19
      refine r_iinc hC dX12_choices_145 rfl (by decide) ?_
      refine r_goto hC 87 dX12_choices_148 (by decide) ?_
      exact r_subk (hX87 _ _ _ _ hw) ⟨rfl, rfl, rfl, rfl, rfl, rfl, rfl, rfl, rfl, trivial⟩
    · have hw := hwf c19
      refine r_aload_n hC dX12_choices_108 rfl rfl ?_
      refine r_iload_n hC dX12_choices_109 rfl rfl ?_
      refine r_iload hC dX12_choices_110 rfl ?_
      refine r_callV hC (d_m_choose hw) rfl kC12_choose km12_246 kI12_choose kS12_choose kN12 dd_12_choose ⟨Nat.le_of_ble_eq_true rfl, Nat.le_of_ble_eq_true rfl⟩ rfl (Nat.le_of_ble_eq_true rfl) dX12_choices_112 (fun r M' hp => ?_)
      obtain ⟨rfl, hw⟩ := hp
      try dsimp only at hw
      refine r_iload hC dX12_choices_115 rfl ?_
      refine r_istore hC dX12_choices_117 (by decide) ?_
      refine r_iload hC dX12_choices_119 rfl ?_
      refine r_iload_n hC dX12_choices_121 rfl rfl ?_
      refine r_iconst hC dX12_choices_122 ?_
      obtain ⟨o22, hw⟩ := hw
      obtain ⟨hwt, hwf⟩ := hw
      refine r_icmp_ne hC 141 dX12_choices_123 (by decide) o22.1 o22.2 (by decide) (by decide) (fun c24 => ?_) (fun c24 => ?_)
      · have hw := hwt c24
        refine r_iconst hC dX12_choices_141 ?_
        refine r_iadd hC dX12_choices_142 ?_
        refine r_istore hC dX12_choices_143 (by decide) ?_
        refine r_iinc hC dX12_choices_145 rfl (by decide) ?_
        refine r_goto hC 87 dX12_choices_148 (by decide) ?_
        exact r_subk (hX87 _ _ _ _ hw) ⟨rfl, rfl, rfl, rfl, rfl, rfl, rfl, rfl, rfl, trivial⟩
      · have hw := hwf c24
        refine r_aload_n hC dX12_choices_126 rfl rfl ?_
        refine r_getR hC 16 rfl (by decide) kf12_56 rfl rfl dX12_choices_127 ?_
        refine r_iload_n hC dX12_choices_130 rfl rfl ?_
        obtain ⟨o25, hw⟩ := hw
        refine r_iald hC rfl o25.1 o25.2 (by decide) (by decide) dX12_choices_131 (fun b27 b27' => ?_)
        replace hw := hw _ rfl b27 b27'
        refine r_iload hC dX12_choices_132 rfl ?_
        obtain ⟨o29, hw⟩ := hw
        obtain ⟨hwt, hwf⟩ := hw
        refine r_icmp_ne hC 141 dX12_choices_134 (by decide) (by omega) (by omega) o29.1 o29.2 (fun c30 => ?_) (fun c30 => ?_)
        · have hw := hwt c30
          refine r_iconst hC dX12_choices_141 ?_
          refine r_iadd hC dX12_choices_142 ?_
          refine r_istore hC dX12_choices_143 (by decide) ?_
          refine r_iinc hC dX12_choices_145 rfl (by decide) ?_
          refine r_goto hC 87 dX12_choices_148 (by decide) ?_
          exact r_subk (hX87 _ _ _ _ hw) ⟨rfl, rfl, rfl, rfl, rfl, rfl, rfl, rfl, rfl, trivial⟩
        · have hw := hwf c30
          refine r_iconst hC dX12_choices_137 ?_
          refine r_goto hC 142 dX12_choices_138 (by decide) ?_
          refine r_iadd hC dX12_choices_142 ?_
          refine r_istore hC dX12_choices_143 (by decide) ?_
          refine r_iinc hC dX12_choices_145 rfl (by decide) ?_
          refine r_goto hC 87 dX12_choices_148 (by decide) ?_
          exact r_subk (hX87 _ _ _ _ hw) ⟨rfl, rfl, rfl, rfl, rfl, rfl, rfl, rfl, rfl, trivial⟩
def w_m_choices_L0 (Q : Int → Mem → Prop) (x1 : Int) (x2 : Int) (x3 : Int) (x4 : Int) (x5 : Int) (x6 : Int) (x7 : Int) (x8 : Int) (M : Mem) : Prop :=
  ∀ X : Int → Int → Int → Mem → Prop, (∀ (x6 : Int) (x7 : Int) (x8 : Int) (M : Mem), w_m_choices_B0 Q x1 x2 x3 x4 x5 X x6 x7 x8 M → X x6 x7 x8 M) → X x6 x7 x8 M
set_option maxRecDepth 100000 in
set_option maxHeartbeats 4000000 in
theorem s_m_choices_L0 {Q : Int → Mem → Prop} {x1 : Int} {x2 : Int} {x3 : Int} {x4 : Int} {x5 : Int} {x6 : Int} {x7 : Int} {x8 : Int} {M : Mem} (hC : rC p R s m args meth c cells slots D aC ad 9 cX12_choices RX12 8 189 (some .int)) (hQ : ∀ (pc : Nat) (L : List (Nat × RV)) (z : Int) (M : Mem), decode cX12_choices pc = .ok (.ireturn, 1) → Q z M → rG p l e R s m args below meth c cells slots Qs D aC ad 9 pc L [vI z] M) (hw : w_m_choices_L0 Q x1 x2 x3 x4 x5 x6 x7 x8 M) : rG p l e R s m args below meth c cells slots Qs D aC ad 9 87 [(0, vR 12), (1, vI x1), (2, vI x2), (3, vI x3), (4, vI x4), (5, vI x5), (6, vI x6), (7, vI x7), (8, vI x8)] [] M := by
  unfold w_m_choices_L0 at hw
  exact hw (fun x6 x7 x8 M => rG p l e R s m args below meth c cells slots Qs D aC ad 9 87 [(0, vR 12), (1, vI x1), (2, vI x2), (3, vI x3), (4, vI x4), (5, vI x5), (6, vI x6), (7, vI x7), (8, vI x8)] [] M) (fun x6 x7 x8 M hb => s_m_choices_B0 hC hQ (fun _ _ _ _ h => h) hb)
def w_m_choices_j0 (Q : Int → Mem → Prop) (x1 : Int) (x2 : Int) (x3 : Int) (x4 : Int) (M : Mem) : Prop :=
  (-2147483648 ≤ x2 ∧ x2 ≤ 2147483647) ∧ (w_m_in M x2 0 3 (fun a2 => (-2147483648 ≤ a2 ∧ a2 ≤ 2147483647) ∧ ((¬ (a2 = 0) → w_m_findKept M x1 (fun a6 M7 => w_m_manyChoices M7 x1 (fun a8 => w_m_choices_L0 Q x1 x2 x3 x4 a6 (-1) 0 (a8 - 1) M7))) ∧ (a2 = 0 → Q (-1002) M))))
set_option maxRecDepth 100000 in
set_option maxHeartbeats 4000000 in
theorem s_m_choices_j0 {Q : Int → Mem → Prop} {x1 : Int} {x2 : Int} {x3 : Int} {x4 : Int} {M : Mem} (hC : rC p R s m args meth c cells slots D aC ad 9 cX12_choices RX12 8 189 (some .int)) (hQ : ∀ (pc : Nat) (L : List (Nat × RV)) (z : Int) (M : Mem), decode cX12_choices pc = .ok (.ireturn, 1) → Q z M → rG p l e R s m args below meth c cells slots Qs D aC ad 9 pc L [vI z] M) (hw : w_m_choices_j0 Q x1 x2 x3 x4 M) : rG p l e R s m args below meth c cells slots Qs D aC ad 9 49 [(0, vR 12), (1, vI x1), (2, vI x2), (3, vI x3), (4, vI x4)] [] M := by
  unfold w_m_choices_j0 at hw
  refine r_iload_n hC dX12_choices_49 rfl rfl ?_
  obtain ⟨o1, hw⟩ := hw
  refine r_i2l hC dX12_choices_50 o1.1 o1.2 ?_
  refine r_lconst hC 0 dX12_choices_51 (by decide) ?_
  refine r_ldc2 hC (3) dX12_choices_52 kL12_180 (by decide) ?_
  refine r_callS hC (d_m_in hw) kC12_in km12_165 kT12_in kN12 dd_12_in ⟨Nat.le_of_ble_eq_true rfl, Nat.le_of_ble_eq_true rfl⟩ rfl (Nat.le_of_ble_eq_true rfl) dX12_choices_55 (fun r M' hp => ?_)
  obtain ⟨rfl, a2, rfl, hw⟩ := hp
  try dsimp only at hw
  obtain ⟨o3, hw⟩ := hw
  obtain ⟨hwt, hwf⟩ := hw
  refine r_if_ne hC 65 dX12_choices_58 (by decide) o3.1 o3.2 (fun c5 => ?_) (fun c5 => ?_)
  · have hw := hwt c5
    refine r_aload_n hC dX12_choices_65 rfl rfl ?_
    refine r_iload_n hC dX12_choices_66 rfl rfl ?_
    refine r_callV hC (d_m_findKept hw) rfl kC12_findKept km12_276 kI12_findKept kS12_findKept kN12 dd_12_findKept ⟨Nat.le_of_ble_eq_true rfl, Nat.le_of_ble_eq_true rfl⟩ rfl (Nat.le_of_ble_eq_true rfl) dX12_choices_67 (fun r M' hp => ?_)
    obtain ⟨a6, rfl, hw⟩ := hp
    try dsimp only at hw
    refine r_istore hC dX12_choices_70 (by decide) ?_
    refine r_iconst hC dX12_choices_72 ?_
    refine r_istore hC dX12_choices_73 (by decide) ?_
    refine r_iconst hC dX12_choices_75 ?_
    refine r_istore hC dX12_choices_76 (by decide) ?_
    refine r_aload_n hC dX12_choices_78 rfl rfl ?_
    refine r_iload_n hC dX12_choices_79 rfl rfl ?_
    refine r_callV hC (d_m_manyChoices hw) rfl kC12_manyChoices km12_266 kI12_manyChoices kS12_manyChoices kN12 dd_12_manyChoices ⟨Nat.le_of_ble_eq_true rfl, Nat.le_of_ble_eq_true rfl⟩ rfl (Nat.le_of_ble_eq_true rfl) dX12_choices_80 (fun r M' hp => ?_)
    obtain ⟨rfl, a8, rfl, hw⟩ := hp
    try dsimp only at hw
    refine r_iconst hC dX12_choices_83 ?_
    refine r_isub hC dX12_choices_84 ?_
    refine r_istore hC dX12_choices_85 (by decide) ?_
    exact r_subk (s_m_choices_L0 hC hQ hw) ⟨rfl, rfl, rfl, rfl, rfl, rfl, rfl, rfl, rfl, trivial⟩
  · have hw := hwf c5
    refine r_sipush hC dX12_choices_61 (by decide) ?_
    exact hQ _ _ _ _ dX12_choices_64 hw
def w_m_choices (M : Mem) (x1 : Int) (x2 : Int) (x3 : Int) (x4 : Int) (Q : Int → Mem → Prop) : Prop :=
  w_m_isColumn M x1 (fun a1 => (-2147483648 ≤ a1 ∧ a1 ≤ 2147483647) ∧ ((a1 = 0 → Q (-1001) M) ∧ (¬ (a1 = 0) → (-2147483648 ≤ x2 ∧ x2 ≤ 2147483647) ∧ ((¬ (x2 = 3) → w_m_choices_j0 Q x1 x2 x3 x4 M) ∧ (x2 = 3 → w_m_isLayer M x1 x3 (fun a8 => (-2147483648 ≤ a8 ∧ a8 ≤ 2147483647) ∧ ((a8 = 0 → Q (-1001) M) ∧ (¬ (a8 = 0) → (-2147483648 ≤ x4 ∧ x4 ≤ 2147483647) ∧ ((0 ≤ (6 * x1) + x3 ∧ (6 * x1) + x3 < 36) ∧ (∀ a14 : Int, a14 = M 58 ((6 * x1) + x3) → 0 ≤ a14 → a14 ≤ 3 → w_m_in M x4 0 (a14 - 1) (fun a17 => (-2147483648 ≤ a17 ∧ a17 ≤ 2147483647) ∧ ((¬ (a17 = 0) → w_m_choices_j0 Q x1 x2 x3 x4 M) ∧ (a17 = 0 → Q (-1001) M)))))))))))))
set_option maxRecDepth 100000 in
set_option maxHeartbeats 4000000 in
theorem s_m_choices {M : Mem} {x1 : Int} {x2 : Int} {x3 : Int} {x4 : Int} {Q : Int → Mem → Prop} (hC : rC p R s m args meth c cells slots D aC ad 9 cX12_choices RX12 8 189 (some .int)) (hQ : ∀ (pc : Nat) (L : List (Nat × RV)) (z : Int) (M : Mem), decode cX12_choices pc = .ok (.ireturn, 1) → Q z M → rG p l e R s m args below meth c cells slots Qs D aC ad 9 pc L [vI z] M) (hw : w_m_choices M x1 x2 x3 x4 Q) : rG p l e R s m args below meth c cells slots Qs D aC ad 9 0 [(0, vR 12), (1, vI x1), (2, vI x2), (3, vI x3), (4, vI x4)] [] M := by
  unfold w_m_choices at hw
  refine r_iload_n hC dX12_choices_0 rfl rfl ?_
  refine r_callS hC (d_m_isColumn hw) kC12_isColumn km12_169 kT12_isColumn kN12 dd_12_isColumn ⟨Nat.le_of_ble_eq_true rfl, Nat.le_of_ble_eq_true rfl⟩ rfl (Nat.le_of_ble_eq_true rfl) dX12_choices_1 (fun r M' hp => ?_)
  obtain ⟨rfl, a1, rfl, hw⟩ := hp
  try dsimp only at hw
  obtain ⟨o2, hw⟩ := hw
  obtain ⟨hwt, hwf⟩ := hw
  refine r_if_eq hC 45 dX12_choices_4 (by decide) o2.1 o2.2 (fun c4 => ?_) (fun c4 => ?_)
  · have hw := hwt c4
    refine r_sipush hC dX12_choices_45 (by decide) ?_
    exact hQ _ _ _ _ dX12_choices_48 hw
  · have hw := hwf c4
    refine r_iload_n hC dX12_choices_7 rfl rfl ?_
    refine r_iconst hC dX12_choices_8 ?_
    obtain ⟨o5, hw⟩ := hw
    obtain ⟨hwt, hwf⟩ := hw
    refine r_icmp_ne hC 49 dX12_choices_9 (by decide) o5.1 o5.2 (by decide) (by decide) (fun c7 => ?_) (fun c7 => ?_)
    · have hw := hwt c7
      exact r_subk (s_m_choices_j0 hC hQ hw) ⟨rfl, rfl, rfl, rfl, rfl, trivial⟩
    · have hw := hwf c7
      refine r_aload_n hC dX12_choices_12 rfl rfl ?_
      refine r_iload_n hC dX12_choices_13 rfl rfl ?_
      refine r_iload_n hC dX12_choices_14 rfl rfl ?_
      refine r_callV hC (d_m_isLayer hw) rfl kC12_isLayer km12_186 kI12_isLayer kS12_isLayer kN12 dd_12_isLayer ⟨Nat.le_of_ble_eq_true rfl, Nat.le_of_ble_eq_true rfl⟩ rfl (Nat.le_of_ble_eq_true rfl) dX12_choices_15 (fun r M' hp => ?_)
      obtain ⟨rfl, a8, rfl, hw⟩ := hp
      try dsimp only at hw
      obtain ⟨o9, hw⟩ := hw
      obtain ⟨hwt, hwf⟩ := hw
      refine r_if_eq hC 45 dX12_choices_18 (by decide) o9.1 o9.2 (fun c11 => ?_) (fun c11 => ?_)
      · have hw := hwt c11
        refine r_sipush hC dX12_choices_45 (by decide) ?_
        exact hQ _ _ _ _ dX12_choices_48 hw
      · have hw := hwf c11
        refine r_iload hC dX12_choices_21 rfl ?_
        obtain ⟨o12, hw⟩ := hw
        refine r_i2l hC dX12_choices_23 o12.1 o12.2 ?_
        refine r_lconst hC 0 dX12_choices_24 (by decide) ?_
        refine r_aload_n hC dX12_choices_25 rfl rfl ?_
        refine r_getR hC 5 rfl (by decide) kf12_25 rfl rfl dX12_choices_26 ?_
        refine r_bipush hC dX12_choices_29 (by decide) ?_
        refine r_iload_n hC dX12_choices_31 rfl rfl ?_
        refine r_imul hC dX12_choices_32 ?_
        refine r_iload_n hC dX12_choices_33 rfl rfl ?_
        refine r_iadd hC dX12_choices_34 ?_
        obtain ⟨o13, hw⟩ := hw
        refine r_iald hC rfl o13.1 o13.2 (by decide) (by decide) dX12_choices_35 (fun b15 b15' => ?_)
        replace hw := hw _ rfl b15 b15'
        refine r_iconst hC dX12_choices_36 ?_
        refine r_isub hC dX12_choices_37 ?_
        refine r_i2l hC dX12_choices_38 (by omega) (by omega) ?_
        refine r_callS hC (d_m_in hw) kC12_in km12_165 kT12_in kN12 dd_12_in ⟨Nat.le_of_ble_eq_true rfl, Nat.le_of_ble_eq_true rfl⟩ rfl (Nat.le_of_ble_eq_true rfl) dX12_choices_39 (fun r M' hp => ?_)
        obtain ⟨rfl, a17, rfl, hw⟩ := hp
        try dsimp only at hw
        obtain ⟨o18, hw⟩ := hw
        obtain ⟨hwt, hwf⟩ := hw
        refine r_if_ne hC 49 dX12_choices_42 (by decide) o18.1 o18.2 (fun c20 => ?_) (fun c20 => ?_)
        · have hw := hwt c20
          exact r_subk (s_m_choices_j0 hC hQ hw) ⟨rfl, rfl, rfl, rfl, rfl, trivial⟩
        · have hw := hwf c20
          refine r_sipush hC dX12_choices_45 (by decide) ?_
          exact hQ _ _ _ _ dX12_choices_48 hw
set_option maxRecDepth 100000 in
set_option maxHeartbeats 4000000 in
theorem d_m_choices {l : Launch} {D : va_G} {aC : Nat → ClassId} {ad : Nat → Nat} {M : Mem} {x1 : Int} {x2 : Int} {x3 : Int} {x4 : Int} {Q : Int → Mem → Prop} (hw : w_m_choices M x1 x2 x3 x4 Q) : Does l D aC ad yX12_choices cX12_choices 9 (some .int) 8 189 [vR 12, vI x1, vI x2, vI x3, vI x4] M (pI Q) :=
  Does.of (by decide) (Nat.le_of_ble_eq_true rfl) (fun p e R s m args below meth c hC => r_subk (s_m_choices hC (fun pc L z M d h => r_iret hC d ⟨z, rfl, h⟩) hw) ⟨rfl, rfl, rfl, rfl, rfl, trivial⟩)
/-- SoupSandModel.begin -/
def w_m_begin (M : Mem) (Q : Mem → Prop) : Prop :=
  ∀ M2 : Mem, M2 = mset M 12 35 0 → ∀ M4 : Mem, M4 = mset M2 12 36 0 → ∀ M6 : Mem, M6 = mset M4 12 37 (-1) → ∀ M8 : Mem, M8 = mset M6 12 38 (-1) → Q M8
set_option maxRecDepth 100000 in
set_option maxHeartbeats 4000000 in
theorem s_m_begin {M : Mem} {Q : Mem → Prop} (hC : rC p R s m args meth c cells slots D aC ad 1 cX12_begin RX12 0 0 none) (hQ : ∀ (pc : Nat) (L : List (Nat × RV)) (M : Mem), decode cX12_begin pc = .ok (.return_, 1) → Q M → rG p l e R s m args below meth c cells slots Qs D aC ad 1 pc L [] M) (hw : w_m_begin M Q) : rG p l e R s m args below meth c cells slots Qs D aC ad 1 0 [(0, vR 12)] [] M := by
  unfold w_m_begin at hw
  refine r_aload_n hC dX12_begin_0 rfl rfl ?_
  refine r_lconst hC 0 dX12_begin_1 (by decide) ?_
  refine r_putJ hC 35 rfl (by decide) kf12_279 rfl rfl (by decide) (by decide) dX12_begin_2 ?_
  replace hw := hw _ rfl
  refine r_aload_n hC dX12_begin_5 rfl rfl ?_
  refine r_lconst hC 0 dX12_begin_6 (by decide) ?_
  refine r_putJ hC 36 rfl (by decide) kf12_282 rfl rfl (by decide) (by decide) dX12_begin_7 ?_
  replace hw := hw _ rfl
  refine r_aload_n hC dX12_begin_10 rfl rfl ?_
  refine r_iconst hC dX12_begin_11 ?_
  refine r_putI hC 37 rfl (by decide) kf12_285 rfl rfl (by decide) (by decide) dX12_begin_12 ?_
  replace hw := hw _ rfl
  refine r_aload_n hC dX12_begin_15 rfl rfl ?_
  refine r_iconst hC dX12_begin_16 ?_
  refine r_putI hC 38 rfl (by decide) kf12_288 rfl rfl (by decide) (by decide) dX12_begin_17 ?_
  replace hw := hw _ rfl
  exact hQ _ _ _ dX12_begin_20 hw
set_option maxRecDepth 100000 in
set_option maxHeartbeats 4000000 in
theorem d_m_begin {l : Launch} {D : va_G} {aC : Nat → ClassId} {ad : Nat → Nat} {M : Mem} {Q : Mem → Prop} (hw : w_m_begin M Q) : Does l D aC ad yX12_begin cX12_begin 1 none 0 0 [vR 12] M (pV Q) :=
  Does.of (by decide) (Nat.le_of_ble_eq_true rfl) (fun p e R s m args below meth c hC => r_subk (s_m_begin hC (fun pc L M d h => r_vret hC d ⟨rfl, h⟩) hw) ⟨rfl, trivial⟩)
/-- SoupSandModel.tell -/
def w_m_tell_j0 (Q : Mem → Prop) (s1 : Int) (s2 : Int) (M : Mem) : Prop :=
  (-1125899906842624 ≤ s1 + s2 ∧ s1 + s2 ≤ 1125899906842624) ∧ (∀ M2 : Mem, M2 = mset M 12 35 (s1 + s2) → ∀ a3 : Int, a3 = M2 12 36 → -1125899906842624 ≤ a3 → a3 ≤ 1125899906842624 → ∀ a5 : Int, a5 = M2 12 17 → -1125899906842624 ≤ a5 → a5 ≤ 1125899906842624 → (-1125899906842624 ≤ a3 + a5 ∧ a3 + a5 ≤ 1125899906842624) ∧ (∀ M8 : Mem, M8 = mset M2 12 36 (a3 + a5) → Q M8))
set_option maxRecDepth 100000 in
set_option maxHeartbeats 4000000 in
theorem s_m_tell_j0 {Q : Mem → Prop} {s1 : Int} {s2 : Int} {M : Mem} (hC : rC p R s m args meth c cells slots D aC ad 2 cX12_tell RX12 0 0 none) (hQ : ∀ (pc : Nat) (L : List (Nat × RV)) (M : Mem), decode cX12_tell pc = .ok (.return_, 1) → Q M → rG p l e R s m args below meth c cells slots Qs D aC ad 2 pc L [] M) (hw : w_m_tell_j0 Q s1 s2 M) : rG p l e R s m args below meth c cells slots Qs D aC ad 2 17 [(0, vR 12)] [vJ s2, vJ s1, vR 12] M := by
  unfold w_m_tell_j0 at hw
  refine r_ladd hC dX12_tell_17 ?_
  obtain ⟨o1, hw⟩ := hw
  refine r_putJ hC 35 rfl (by decide) kf12_279 rfl rfl o1.1 o1.2 dX12_tell_18 ?_
  replace hw := hw _ rfl
  refine r_aload_n hC dX12_tell_21 rfl rfl ?_
  refine r_dup hC dX12_tell_22 rfl ?_
  refine r_getJ hC 36 rfl (by decide) kf12_282 rfl rfl dX12_tell_23 (fun b4 b4' => ?_)
  replace hw := hw _ rfl b4 b4'
  refine r_aload_n hC dX12_tell_26 rfl rfl ?_
  refine r_getJ hC 17 rfl (by decide) kf12_225 rfl rfl dX12_tell_27 (fun b6 b6' => ?_)
  replace hw := hw _ rfl b6 b6'
  refine r_ladd hC dX12_tell_30 ?_
  obtain ⟨o7, hw⟩ := hw
  refine r_putJ hC 36 rfl (by decide) kf12_282 rfl rfl o7.1 o7.2 dX12_tell_31 ?_
  replace hw := hw _ rfl
  exact hQ _ _ _ dX12_tell_34 hw
def w_m_tell (M : Mem) (x1 : Int) (Q : Mem → Prop) : Prop :=
  ∀ a1 : Int, a1 = M 12 35 → -1125899906842624 ≤ a1 → a1 ≤ 1125899906842624 → (-2147483648 ≤ x1 ∧ x1 ≤ 2147483647) ∧ ((x1 = 0 → w_m_tell_j0 Q a1 0 M) ∧ (¬ (x1 = 0) → ∀ a6 : Int, a6 = M 12 17 → -1125899906842624 ≤ a6 → a6 ≤ 1125899906842624 → w_m_tell_j0 Q a1 a6 M))
set_option maxRecDepth 100000 in
set_option maxHeartbeats 4000000 in
theorem s_m_tell {M : Mem} {x1 : Int} {Q : Mem → Prop} (hC : rC p R s m args meth c cells slots D aC ad 2 cX12_tell RX12 0 0 none) (hQ : ∀ (pc : Nat) (L : List (Nat × RV)) (M : Mem), decode cX12_tell pc = .ok (.return_, 1) → Q M → rG p l e R s m args below meth c cells slots Qs D aC ad 2 pc L [] M) (hw : w_m_tell M x1 Q) : rG p l e R s m args below meth c cells slots Qs D aC ad 2 0 [(0, vR 12), (1, vI x1)] [] M := by
  unfold w_m_tell at hw
  refine r_aload_n hC dX12_tell_0 rfl rfl ?_
  refine r_dup hC dX12_tell_1 rfl ?_
  refine r_getJ hC 35 rfl (by decide) kf12_279 rfl rfl dX12_tell_2 (fun b2 b2' => ?_)
  replace hw := hw _ rfl b2 b2'
  refine r_iload_n hC dX12_tell_5 rfl rfl ?_
  obtain ⟨o3, hw⟩ := hw
  obtain ⟨hwt, hwf⟩ := hw
  refine r_if_eq hC 16 dX12_tell_6 (by decide) o3.1 o3.2 (fun c5 => ?_) (fun c5 => ?_)
  · have hw := hwt c5
    refine r_lconst hC 0 dX12_tell_16 (by decide) ?_
    exact r_subk (s_m_tell_j0 hC hQ hw) ⟨rfl, trivial⟩
  · have hw := hwf c5
    refine r_aload_n hC dX12_tell_9 rfl rfl ?_
    refine r_getJ hC 17 rfl (by decide) kf12_225 rfl rfl dX12_tell_10 (fun b7 b7' => ?_)
    replace hw := hw _ rfl b7 b7'
    refine r_goto hC 17 dX12_tell_13 (by decide) ?_
    exact r_subk (s_m_tell_j0 hC hQ hw) ⟨rfl, trivial⟩
set_option maxRecDepth 100000 in
set_option maxHeartbeats 4000000 in
theorem d_m_tell {l : Launch} {D : va_G} {aC : Nat → ClassId} {ad : Nat → Nat} {M : Mem} {x1 : Int} {Q : Mem → Prop} (hw : w_m_tell M x1 Q) : Does l D aC ad yX12_tell cX12_tell 2 none 0 0 [vR 12, vI x1] M (pV Q) :=
  Does.of (by decide) (Nat.le_of_ble_eq_true rfl) (fun p e R s m args below meth c hC => r_subk (s_m_tell hC (fun pc L M d h => r_vret hC d ⟨rfl, h⟩) hw) ⟨rfl, rfl, trivial⟩)
/-- SoupSandModel.note -/
def w_m_note_j1 (Q : Mem → Prop) (s1 : Int) (M : Mem) : Prop :=
  (-2147483648 ≤ s1 ∧ s1 ≤ 2147483647) ∧ (∀ M2 : Mem, M2 = mset M 12 38 s1 → Q M2)
set_option maxRecDepth 100000 in
set_option maxHeartbeats 4000000 in
theorem s_m_note_j1 {Q : Mem → Prop} {s1 : Int} {M : Mem} (hC : rC p R s m args meth c cells slots D aC ad 2 cX12_note RX12 0 0 none) (hQ : ∀ (pc : Nat) (L : List (Nat × RV)) (M : Mem), decode cX12_note pc = .ok (.return_, 1) → Q M → rG p l e R s m args below meth c cells slots Qs D aC ad 2 pc L [] M) (hw : w_m_note_j1 Q s1 M) : rG p l e R s m args below meth c cells slots Qs D aC ad 2 44 [] [vI s1, vR 12] M := by
  unfold w_m_note_j1 at hw
  obtain ⟨o1, hw⟩ := hw
  refine r_putI hC 38 rfl (by decide) kf12_288 rfl rfl o1.1 o1.2 dX12_note_44 ?_
  replace hw := hw _ rfl
  exact hQ _ _ _ dX12_note_47 hw
def w_m_note_j0 (Q : Mem → Prop) (x1 : Int) (s1 : Int) (M : Mem) : Prop :=
  (-2147483648 ≤ s1 ∧ s1 ≤ 2147483647) ∧ (∀ M2 : Mem, M2 = mset M 12 37 s1 → ∀ a3 : Int, a3 = M2 12 38 → -2147483648 ≤ a3 → a3 ≤ 2147483647 → (-2147483648 ≤ x1 ∧ x1 ≤ 2147483647) ∧ ((x1 ≤ a3 → ∀ a8 : Int, a8 = M2 12 38 → -2147483648 ≤ a8 → a8 ≤ 2147483647 → w_m_note_j1 Q a8 M2) ∧ (¬ (x1 ≤ a3) → w_m_note_j1 Q x1 M2)))
set_option maxRecDepth 100000 in
set_option maxHeartbeats 4000000 in
theorem s_m_note_j0 {Q : Mem → Prop} {x1 : Int} {s1 : Int} {M : Mem} (hC : rC p R s m args meth c cells slots D aC ad 2 cX12_note RX12 0 0 none) (hQ : ∀ (pc : Nat) (L : List (Nat × RV)) (M : Mem), decode cX12_note pc = .ok (.return_, 1) → Q M → rG p l e R s m args below meth c cells slots Qs D aC ad 2 pc L [] M) (hw : w_m_note_j0 Q x1 s1 M) : rG p l e R s m args below meth c cells slots Qs D aC ad 2 24 [(0, vR 12), (1, vI x1)] [vI s1, vR 12] M := by
  unfold w_m_note_j0 at hw
  obtain ⟨o1, hw⟩ := hw
  refine r_putI hC 37 rfl (by decide) kf12_285 rfl rfl o1.1 o1.2 dX12_note_24 ?_
  replace hw := hw _ rfl
  refine r_aload_n hC dX12_note_27 rfl rfl ?_
  refine r_iload_n hC dX12_note_28 rfl rfl ?_
  refine r_aload_n hC dX12_note_29 rfl rfl ?_
  refine r_getI hC 38 rfl (by decide) kf12_288 rfl rfl dX12_note_30 (fun b4 b4' => ?_)
  replace hw := hw _ rfl b4 b4'
  obtain ⟨o5, hw⟩ := hw
  obtain ⟨hwt, hwf⟩ := hw
  refine r_icmp_le hC 40 dX12_note_33 (by decide) o5.1 o5.2 (by omega) (by omega) (fun c7 => ?_) (fun c7 => ?_)
  · have hw := hwt c7
    refine r_aload_n hC dX12_note_40 rfl rfl ?_
    refine r_getI hC 38 rfl (by decide) kf12_288 rfl rfl dX12_note_41 (fun b9 b9' => ?_)
    replace hw := hw _ rfl b9 b9'
    exact r_subk (s_m_note_j1 hC hQ hw) trivial
  · have hw := hwf c7
    refine r_iload_n hC dX12_note_36 rfl rfl ?_
    refine r_goto hC 44 dX12_note_37 (by decide) ?_
    exact r_subk (s_m_note_j1 hC hQ hw) trivial
def w_m_note (M : Mem) (x1 : Int) (Q : Mem → Prop) : Prop :=
  ∀ a1 : Int, a1 = M 12 37 → -2147483648 ≤ a1 → a1 ≤ 2147483647 → (a1 < 0 → w_m_note_j0 Q x1 x1 M) ∧ (¬ (a1 < 0) → ∀ a6 : Int, a6 = M 12 37 → -2147483648 ≤ a6 → a6 ≤ 2147483647 → (-2147483648 ≤ x1 ∧ x1 ≤ 2147483647) ∧ ((a6 ≤ x1 → ∀ a11 : Int, a11 = M 12 37 → -2147483648 ≤ a11 → a11 ≤ 2147483647 → w_m_note_j0 Q x1 a11 M) ∧ (¬ (a6 ≤ x1) → w_m_note_j0 Q x1 x1 M)))
set_option maxRecDepth 100000 in
set_option maxHeartbeats 4000000 in
theorem s_m_note {M : Mem} {x1 : Int} {Q : Mem → Prop} (hC : rC p R s m args meth c cells slots D aC ad 2 cX12_note RX12 0 0 none) (hQ : ∀ (pc : Nat) (L : List (Nat × RV)) (M : Mem), decode cX12_note pc = .ok (.return_, 1) → Q M → rG p l e R s m args below meth c cells slots Qs D aC ad 2 pc L [] M) (hw : w_m_note M x1 Q) : rG p l e R s m args below meth c cells slots Qs D aC ad 2 0 [(0, vR 12), (1, vI x1)] [] M := by
  unfold w_m_note at hw
  refine r_aload_n hC dX12_note_0 rfl rfl ?_
  refine r_aload_n hC dX12_note_1 rfl rfl ?_
  refine r_getI hC 37 rfl (by decide) kf12_285 rfl rfl dX12_note_2 (fun b2 b2' => ?_)
  replace hw := hw _ rfl b2 b2'
  obtain ⟨hwt, hwf⟩ := hw
  refine r_if_lt hC 16 dX12_note_5 (by decide) (by omega) (by omega) (fun c5 => ?_) (fun c5 => ?_)
  · have hw := hwt c5
    refine r_iload_n hC dX12_note_16 rfl rfl ?_
    refine r_goto hC 24 dX12_note_17 (by decide) ?_
    exact r_subk (s_m_note_j0 hC hQ hw) ⟨rfl, rfl, trivial⟩
  · have hw := hwf c5
    refine r_iload_n hC dX12_note_8 rfl rfl ?_
    refine r_aload_n hC dX12_note_9 rfl rfl ?_
    refine r_getI hC 37 rfl (by decide) kf12_285 rfl rfl dX12_note_10 (fun b7 b7' => ?_)
    replace hw := hw _ rfl b7 b7'
    obtain ⟨o8, hw⟩ := hw
    obtain ⟨hwt, hwf⟩ := hw
    refine r_icmp_ge hC 20 dX12_note_13 (by decide) o8.1 o8.2 (by omega) (by omega) (fun c10 => ?_) (fun c10 => ?_)
    · have hw := hwt c10
      refine r_aload_n hC dX12_note_20 rfl rfl ?_
      refine r_getI hC 37 rfl (by decide) kf12_285 rfl rfl dX12_note_21 (fun b12 b12' => ?_)
      replace hw := hw _ rfl b12 b12'
      exact r_subk (s_m_note_j0 hC hQ hw) ⟨rfl, rfl, trivial⟩
    · have hw := hwf c10
      refine r_iload_n hC dX12_note_16 rfl rfl ?_
      refine r_goto hC 24 dX12_note_17 (by decide) ?_
      exact r_subk (s_m_note_j0 hC hQ hw) ⟨rfl, rfl, trivial⟩
set_option maxRecDepth 100000 in
set_option maxHeartbeats 4000000 in
theorem d_m_note {l : Launch} {D : va_G} {aC : Nat → ClassId} {ad : Nat → Nat} {M : Mem} {x1 : Int} {Q : Mem → Prop} (hw : w_m_note M x1 Q) : Does l D aC ad yX12_note cX12_note 2 none 0 0 [vR 12, vI x1] M (pV Q) :=
  Does.of (by decide) (Nat.le_of_ble_eq_true rfl) (fun p e R s m args below meth c hC => r_subk (s_m_note hC (fun pc L M d h => r_vret hC d ⟨rfl, h⟩) hw) ⟨rfl, rfl, trivial⟩)
theorem dd_12_begin : yX12_begin.cls ≠ "java/lang/invoke/MethodHandle" ∧ yX12_begin.cls ≠ "java/lang/invoke/VarHandle" ∧ (parseMethodDescriptor yX12_begin.desc).map (fun d => d.parameters.length) = some 0 := by decide +kernel
theorem dd_12_note : yX12_note.cls ≠ "java/lang/invoke/MethodHandle" ∧ yX12_note.cls ≠ "java/lang/invoke/VarHandle" ∧ (parseMethodDescriptor yX12_note.desc).map (fun d => d.parameters.length) = some 1 := by decide +kernel
theorem dd_12_tell : yX12_tell.cls ≠ "java/lang/invoke/MethodHandle" ∧ yX12_tell.cls ≠ "java/lang/invoke/VarHandle" ∧ (parseMethodDescriptor yX12_tell.desc).map (fun d => d.parameters.length) = some 1 := by decide +kernel
/-- SoupSandModel.goThrough -/
def w_m_goThrough_j0 (Q : Int → Mem → Prop) (X17 : Int → Mem → Prop) (x1 : Int) (x2 : Int) (x3 : Int) (x4 : Int) (s1 : Int) (M : Mem) : Prop :=
  w_m_tell M s1 (fun M2 => (0 ≤ x3 ∧ x3 < 6) ∧ (∀ a4 : Int, a4 = M2 70 x3 → -1 ≤ a4 → a4 ≤ 59 → (a4 < 0 → X17 (x4 + 1) M2) ∧ (¬ (a4 < 0) → (0 ≤ x3 ∧ x3 < 6) ∧ (∀ a10 : Int, a10 = M2 70 x3 → -1 ≤ a10 → a10 ≤ 59 → w_m_note M2 a10 (fun M13 => X17 (x4 + 1) M13)))))
set_option maxRecDepth 100000 in
set_option maxHeartbeats 4000000 in
theorem s_m_goThrough_j0 {Q : Int → Mem → Prop} {X17 : Int → Mem → Prop} {x1 : Int} {x2 : Int} {x3 : Int} {x4 : Int} {s1 : Int} {M : Mem} (hC : rC p R s m args meth c cells slots D aC ad 5 cX12_goThrough RX12 8 189 (some .boolean)) (hQ : ∀ (pc : Nat) (L : List (Nat × RV)) (z : Int) (M : Mem), decode cX12_goThrough pc = .ok (.ireturn, 1) → 0 ≤ z → z ≤ 1 → Q z M → rG p l e R s m args below meth c cells slots Qs D aC ad 5 pc L [vI z] M) (hX17 : ∀ (x4 : Int) (M : Mem), X17 x4 M → rG p l e R s m args below meth c cells slots Qs D aC ad 5 17 [(0, vR 12), (1, vI x1), (2, vI x2), (3, vI x3), (4, vI x4)] [] M) (hw : w_m_goThrough_j0 Q X17 x1 x2 x3 x4 s1 M) : rG p l e R s m args below meth c cells slots Qs D aC ad 5 71 [(0, vR 12), (1, vI x1), (2, vI x2), (3, vI x3), (4, vI x4)] [vI s1, vR 12] M := by
  unfold w_m_goThrough_j0 at hw
  refine r_callV hC (d_m_tell hw) rfl kC12_tell km12_298 kI12_tell kS12_tell kN12 dd_12_tell ⟨Nat.le_of_ble_eq_true rfl, Nat.le_of_ble_eq_true rfl⟩ rfl (Nat.le_of_ble_eq_true rfl) dX12_goThrough_71 (fun r M' hp => ?_)
  obtain ⟨rfl, hw⟩ := hp
  try dsimp only at hw
  refine r_aload_n hC dX12_goThrough_74 rfl rfl ?_
  refine r_getR hC 19 rfl (by decide) kf12_62 rfl rfl dX12_goThrough_75 ?_
  refine r_iload_n hC dX12_goThrough_78 rfl rfl ?_
  obtain ⟨o3, hw⟩ := hw
  refine r_iald hC rfl o3.1 o3.2 (by decide) (by decide) dX12_goThrough_79 (fun b5 b5' => ?_)
  replace hw := hw _ rfl b5 b5'
  obtain ⟨hwt, hwf⟩ := hw
  refine r_if_lt hC 93 dX12_goThrough_80 (by decide) (by omega) (by omega) (fun c8 => ?_) (fun c8 => ?_)
  · have hw := hwt c8
    refine r_iinc hC dX12_goThrough_93 rfl (by decide) ?_
    refine r_goto hC 17 dX12_goThrough_96 (by decide) ?_
    exact r_subk (hX17 _ _ hw) ⟨rfl, rfl, rfl, rfl, rfl, trivial⟩
  · have hw := hwf c8
    refine r_aload_n hC dX12_goThrough_83 rfl rfl ?_
    refine r_aload_n hC dX12_goThrough_84 rfl rfl ?_
    refine r_getR hC 19 rfl (by decide) kf12_62 rfl rfl dX12_goThrough_85 ?_
    refine r_iload_n hC dX12_goThrough_88 rfl rfl ?_
    obtain ⟨o9, hw⟩ := hw
    refine r_iald hC rfl o9.1 o9.2 (by decide) (by decide) dX12_goThrough_89 (fun b11 b11' => ?_)
    replace hw := hw _ rfl b11 b11'
    refine r_callV hC (d_m_note hw) rfl kC12_note km12_302 kI12_note kS12_note kN12 dd_12_note ⟨Nat.le_of_ble_eq_true rfl, Nat.le_of_ble_eq_true rfl⟩ rfl (Nat.le_of_ble_eq_true rfl) dX12_goThrough_90 (fun r M' hp => ?_)
    obtain ⟨rfl, hw⟩ := hp
    try dsimp only at hw
    refine r_iinc hC dX12_goThrough_93 rfl (by decide) ?_
    refine r_goto hC 17 dX12_goThrough_96 (by decide) ?_
    exact r_subk (hX17 _ _ hw) ⟨rfl, rfl, rfl, rfl, rfl, trivial⟩
def w_m_goThrough_B0 (Q : Int → Mem → Prop) (x1 : Int) (x2 : Int) (x3 : Int) (X17 : Int → Mem → Prop) (x4 : Int) (M : Mem) : Prop :=
  w_m_manyChoices M x1 (fun a1 => (-2147483648 ≤ x4 ∧ x4 ≤ 2147483647) ∧ ((-2147483648 ≤ a1 ∧ a1 ≤ 2147483647) ∧ ((a1 ≤ x4 → Q 1 M) ∧ (¬ (a1 ≤ x4) → (0 ≤ (729 * x1) + x4 ∧ (729 * x1) + x4 < 4374) ∧ (∀ a7 : Int, a7 = M 82 ((729 * x1) + x4) → 0 ≤ a7 → a7 ≤ 1 → (a7 = 0 → X17 (x4 + 1) M) ∧ (¬ (a7 = 0) → w_m_choose M x1 x4 (fun M13 => w_m_runOf M13 x1 x2 (fun M15 => (0 ≤ x3 ∧ x3 < 6) ∧ (∀ a17 : Int, a17 = M15 70 x3 → -1 ≤ a17 → a17 ≤ 59 → (a17 < 0 → w_m_goThrough_j0 Q X17 x1 x2 x3 x4 0 M15) ∧ (¬ (a17 < 0) → w_m_goThrough_j0 Q X17 x1 x2 x3 x4 1 M15))))))))))
set_option maxRecDepth 100000 in
set_option maxHeartbeats 4000000 in
theorem s_m_goThrough_B0 {Q : Int → Mem → Prop} {x1 : Int} {x2 : Int} {x3 : Int} {X17 : Int → Mem → Prop} {x4 : Int} {M : Mem} (hC : rC p R s m args meth c cells slots D aC ad 5 cX12_goThrough RX12 8 189 (some .boolean)) (hQ : ∀ (pc : Nat) (L : List (Nat × RV)) (z : Int) (M : Mem), decode cX12_goThrough pc = .ok (.ireturn, 1) → 0 ≤ z → z ≤ 1 → Q z M → rG p l e R s m args below meth c cells slots Qs D aC ad 5 pc L [vI z] M) (hX17 : ∀ (x4 : Int) (M : Mem), X17 x4 M → rG p l e R s m args below meth c cells slots Qs D aC ad 5 17 [(0, vR 12), (1, vI x1), (2, vI x2), (3, vI x3), (4, vI x4)] [] M) (hw : w_m_goThrough_B0 Q x1 x2 x3 X17 x4 M) : rG p l e R s m args below meth c cells slots Qs D aC ad 5 17 [(0, vR 12), (1, vI x1), (2, vI x2), (3, vI x3), (4, vI x4)] [] M := by
  unfold w_m_goThrough_B0 at hw
  refine r_iload hC dX12_goThrough_17 rfl ?_
  refine r_aload_n hC dX12_goThrough_19 rfl rfl ?_
  refine r_iload_n hC dX12_goThrough_20 rfl rfl ?_
  refine r_callV hC (d_m_manyChoices hw) rfl kC12_manyChoices km12_266 kI12_manyChoices kS12_manyChoices kN12 dd_12_manyChoices ⟨Nat.le_of_ble_eq_true rfl, Nat.le_of_ble_eq_true rfl⟩ rfl (Nat.le_of_ble_eq_true rfl) dX12_goThrough_21 (fun r M' hp => ?_)
  obtain ⟨rfl, a1, rfl, hw⟩ := hp
  try dsimp only at hw
  obtain ⟨o2, hw⟩ := hw
  obtain ⟨o3, hw⟩ := hw
  obtain ⟨hwt, hwf⟩ := hw
  refine r_icmp_ge hC 99 dX12_goThrough_24 (by decide) o2.1 o2.2 o3.1 o3.2 (fun c4 => ?_) (fun c4 => ?_)
  · have hw := hwt c4
    refine r_iconst hC dX12_goThrough_99 ?_
    exact hQ _ _ _ _ dX12_goThrough_100 (by decide) (by decide) hw
  · have hw := hwf c4
    refine r_aload_n hC dX12_goThrough_27 rfl rfl ?_
    refine r_getR hC 34 rfl (by decide) kf12_98 rfl rfl dX12_goThrough_28 ?_
    refine r_sipush hC dX12_goThrough_31 (by decide) ?_
    refine r_iload_n hC dX12_goThrough_34 rfl rfl ?_
    refine r_imul hC dX12_goThrough_35 ?_
    refine r_iload hC dX12_goThrough_36 rfl ?_
    refine r_iadd hC dX12_goThrough_38 ?_
    obtain ⟨o6, hw⟩ := hw
    refine r_zald hC rfl o6.1 o6.2 (by decide) (by decide) dX12_goThrough_39 (fun b8 b8' => ?_)
    replace hw := hw _ rfl b8 b8'
    obtain ⟨hwt, hwf⟩ := hw
    refine r_if_eq hC 93 dX12_goThrough_40 (by decide) (by omega) (by omega) (fun c11 => ?_) (fun c11 => ?_)
    · have hw := hwt c11
      refine r_iinc hC dX12_goThrough_93 rfl (by decide) ?_
      refine r_goto hC 17 dX12_goThrough_96 (by decide) ?_
      exact r_subk (hX17 _ _ hw) ⟨rfl, rfl, rfl, rfl, rfl, trivial⟩
    · have hw := hwf c11
      refine r_aload_n hC dX12_goThrough_43 rfl rfl ?_
      refine r_iload_n hC dX12_goThrough_44 rfl rfl ?_
      refine r_iload hC dX12_goThrough_45 rfl ?_
      refine r_callV hC (d_m_choose hw) rfl kC12_choose km12_246 kI12_choose kS12_choose kN12 dd_12_choose ⟨Nat.le_of_ble_eq_true rfl, Nat.le_of_ble_eq_true rfl⟩ rfl (Nat.le_of_ble_eq_true rfl) dX12_goThrough_47 (fun r M' hp => ?_)
      obtain ⟨rfl, hw⟩ := hp
      try dsimp only at hw
      refine r_aload_n hC dX12_goThrough_50 rfl rfl ?_
      refine r_iload_n hC dX12_goThrough_51 rfl rfl ?_
      refine r_iload_n hC dX12_goThrough_52 rfl rfl ?_
      refine r_callV hC (d_m_runOf hw) rfl kC12_runOf km12_249 kI12_runOf kS12_runOf kN12 dd_12_runOf ⟨Nat.le_of_ble_eq_true rfl, Nat.le_of_ble_eq_true rfl⟩ rfl (Nat.le_of_ble_eq_true rfl) dX12_goThrough_53 (fun r M' hp => ?_)
      obtain ⟨rfl, hw⟩ := hp
      try dsimp only at hw
      refine r_aload_n hC dX12_goThrough_56 rfl rfl ?_
      refine r_aload_n hC dX12_goThrough_57 rfl rfl ?_
      refine r_getR hC 19 rfl (by decide) kf12_62 rfl rfl dX12_goThrough_58 ?_
      refine r_iload_n hC dX12_goThrough_61 rfl rfl ?_
      obtain ⟨o16, hw⟩ := hw
      refine r_iald hC rfl o16.1 o16.2 (by decide) (by decide) dX12_goThrough_62 (fun b18 b18' => ?_)
      replace hw := hw _ rfl b18 b18'
      obtain ⟨hwt, hwf⟩ := hw
      refine r_if_lt hC 70 dX12_goThrough_63 (by decide) (by omega) (by omega) (fun c21 => ?_) (fun c21 => ?_)
      · have hw := hwt c21
        refine r_iconst hC dX12_goThrough_70 ?_
        exact r_subk (s_m_goThrough_j0 hC hQ hX17 hw) ⟨rfl, rfl, rfl, rfl, rfl, trivial⟩
      · have hw := hwf c21
        refine r_iconst hC dX12_goThrough_66 ?_
        refine r_goto hC 71 dX12_goThrough_67 (by decide) ?_
        exact r_subk (s_m_goThrough_j0 hC hQ hX17 hw) ⟨rfl, rfl, rfl, rfl, rfl, trivial⟩
def w_m_goThrough_L0 (Q : Int → Mem → Prop) (x1 : Int) (x2 : Int) (x3 : Int) (x4 : Int) (M : Mem) : Prop :=
  ∀ X : Int → Mem → Prop, (∀ (x4 : Int) (M : Mem), w_m_goThrough_B0 Q x1 x2 x3 X x4 M → X x4 M) → X x4 M
set_option maxRecDepth 100000 in
set_option maxHeartbeats 4000000 in
theorem s_m_goThrough_L0 {Q : Int → Mem → Prop} {x1 : Int} {x2 : Int} {x3 : Int} {x4 : Int} {M : Mem} (hC : rC p R s m args meth c cells slots D aC ad 5 cX12_goThrough RX12 8 189 (some .boolean)) (hQ : ∀ (pc : Nat) (L : List (Nat × RV)) (z : Int) (M : Mem), decode cX12_goThrough pc = .ok (.ireturn, 1) → 0 ≤ z → z ≤ 1 → Q z M → rG p l e R s m args below meth c cells slots Qs D aC ad 5 pc L [vI z] M) (hw : w_m_goThrough_L0 Q x1 x2 x3 x4 M) : rG p l e R s m args below meth c cells slots Qs D aC ad 5 17 [(0, vR 12), (1, vI x1), (2, vI x2), (3, vI x3), (4, vI x4)] [] M := by
  unfold w_m_goThrough_L0 at hw
  exact hw (fun x4 M => rG p l e R s m args below meth c cells slots Qs D aC ad 5 17 [(0, vR 12), (1, vI x1), (2, vI x2), (3, vI x3), (4, vI x4)] [] M) (fun x4 M hb => s_m_goThrough_B0 hC hQ (fun _ _ h => h) hb)
def w_m_goThrough (M : Mem) (x1 : Int) (x2 : Int) (x3 : Int) (Q : Int → Mem → Prop) : Prop :=
  w_m_findKept M x1 (fun a1 M2 => (-2147483648 ≤ a1 ∧ a1 ≤ 2147483647) ∧ ((¬ (a1 = 0) → w_m_begin M2 (fun M7 => w_m_goThrough_L0 Q x1 x2 x3 0 M7)) ∧ (a1 = 0 → Q 0 M2)))
set_option maxRecDepth 100000 in
set_option maxHeartbeats 4000000 in
theorem s_m_goThrough {M : Mem} {x1 : Int} {x2 : Int} {x3 : Int} {Q : Int → Mem → Prop} (hC : rC p R s m args meth c cells slots D aC ad 5 cX12_goThrough RX12 8 189 (some .boolean)) (hQ : ∀ (pc : Nat) (L : List (Nat × RV)) (z : Int) (M : Mem), decode cX12_goThrough pc = .ok (.ireturn, 1) → 0 ≤ z → z ≤ 1 → Q z M → rG p l e R s m args below meth c cells slots Qs D aC ad 5 pc L [vI z] M) (hw : w_m_goThrough M x1 x2 x3 Q) : rG p l e R s m args below meth c cells slots Qs D aC ad 5 0 [(0, vR 12), (1, vI x1), (2, vI x2), (3, vI x3)] [] M := by
  unfold w_m_goThrough at hw
  refine r_aload_n hC dX12_goThrough_0 rfl rfl ?_
  refine r_iload_n hC dX12_goThrough_1 rfl rfl ?_
  refine r_callV hC (d_m_findKept hw) rfl kC12_findKept km12_276 kI12_findKept kS12_findKept kN12 dd_12_findKept ⟨Nat.le_of_ble_eq_true rfl, Nat.le_of_ble_eq_true rfl⟩ rfl (Nat.le_of_ble_eq_true rfl) dX12_goThrough_2 (fun r M' hp => ?_)
  obtain ⟨a1, rfl, hw⟩ := hp
  try dsimp only at hw
  obtain ⟨o3, hw⟩ := hw
  obtain ⟨hwt, hwf⟩ := hw
  refine r_if_ne hC 10 dX12_goThrough_5 (by decide) o3.1 o3.2 (fun c5 => ?_) (fun c5 => ?_)
  · have hw := hwt c5
    refine r_aload_n hC dX12_goThrough_10 rfl rfl ?_
    refine r_callV hC (d_m_begin hw) rfl kC12_begin km12_295 kI12_begin kS12_begin kN12 dd_12_begin ⟨Nat.le_of_ble_eq_true rfl, Nat.le_of_ble_eq_true rfl⟩ rfl (Nat.le_of_ble_eq_true rfl) dX12_goThrough_11 (fun r M' hp => ?_)
    obtain ⟨rfl, hw⟩ := hp
    try dsimp only at hw
    refine r_iconst hC dX12_goThrough_14 ?_
    refine r_istore hC dX12_goThrough_15 (by decide) ?_
    exact r_subk (s_m_goThrough_L0 hC hQ hw) ⟨rfl, rfl, rfl, rfl, rfl, trivial⟩
  · have hw := hwf c5
    refine r_iconst hC dX12_goThrough_8 ?_
    exact hQ _ _ _ _ dX12_goThrough_9 (by decide) (by decide) hw
set_option maxRecDepth 100000 in
set_option maxHeartbeats 4000000 in
theorem d_m_goThrough {l : Launch} {D : va_G} {aC : Nat → ClassId} {ad : Nat → Nat} {M : Mem} {x1 : Int} {x2 : Int} {x3 : Int} {Q : Int → Mem → Prop} (hw : w_m_goThrough M x1 x2 x3 Q) : Does l D aC ad yX12_goThrough cX12_goThrough 5 (some .boolean) 8 189 [vR 12, vI x1, vI x2, vI x3] M (pI Q) :=
  Does.of (by decide) (Nat.le_of_ble_eq_true rfl) (fun p e R s m args below meth c hC => r_subk (s_m_goThrough hC (fun pc L z M d z1 z2 h => r_zret hC d z1 z2 ⟨z, rfl, h⟩) hw) ⟨rfl, rfl, rfl, rfl, trivial⟩)
/-- SoupSandModel.gcd -/
def w_m_gcd_B0 (Q : Int → Prop) (M : Mem) (X6 : Int → Int → Prop) (x4 : Int) (x6 : Int) : Prop :=
  (-9223372036854775808 ≤ x6 ∧ x6 ≤ 9223372036854775807) ∧ ((x6 = 0 → Q x4) ∧ (¬ (x6 = 0) → ((0 ≤ x4 ∧ x4 ≤ 9223372036854775807) ∧ (0 < x6 ∧ x6 ≤ 9223372036854775807)) ∧ (X6 x6 (x4 % x6))))
set_option maxRecDepth 100000 in
set_option maxHeartbeats 4000000 in
theorem s_m_gcd_B0 {Q : Int → Prop} {M : Mem} {X6 : Int → Int → Prop} {x4 : Int} {x6 : Int} (hC : rC p R s m args meth c cells slots D aC ad 10 cX12_gcd RX12 0 0 (some .long)) (hQ : ∀ (pc : Nat) (L : List (Nat × RV)) (z : Int), decode cX12_gcd pc = .ok (.lreturn, 1) → Q z → rG p l e R s m args below meth c cells slots Qs D aC ad 10 pc L [vJ z] M) (hX6 : ∀ (x4 : Int) (x6 : Int), X6 x4 x6 → rG p l e R s m args below meth c cells slots Qs D aC ad 10 6 [(4, vJ x4), (6, vJ x6)] [] M) (hw : w_m_gcd_B0 Q M X6 x4 x6) : rG p l e R s m args below meth c cells slots Qs D aC ad 10 6 [(4, vJ x4), (6, vJ x6)] [] M := by
  unfold w_m_gcd_B0 at hw
  refine r_lload hC dX12_gcd_6 rfl ?_
  refine r_lconst hC 0 dX12_gcd_8 (by decide) ?_
  obtain ⟨o1, hw⟩ := hw
  obtain ⟨hwt, hwf⟩ := hw
  refine r_lcmp_eq hC 31 dX12_gcd_9 dX12_gcd_10 (by decide) o1.1 o1.2 (by decide) (by decide) (fun c3 => ?_) (fun c3 => ?_)
  · have hw := hwt c3
    refine r_lload hC dX12_gcd_31 rfl ?_
    exact hQ _ _ _ dX12_gcd_33 hw
  · have hw := hwf c3
    refine r_lload hC dX12_gcd_13 rfl ?_
    refine r_lload hC dX12_gcd_15 rfl ?_
    obtain ⟨o4, hw⟩ := hw
    refine r_lrem hC dX12_gcd_17 o4.1.1 o4.1.2 o4.2.1 o4.2.2 ?_
    refine r_lstore hC dX12_gcd_18 (by decide) ?_
    refine r_lload hC dX12_gcd_20 rfl ?_
    refine r_lstore hC dX12_gcd_22 (by decide) ?_
    refine r_lload hC dX12_gcd_24 rfl ?_
    refine r_lstore hC dX12_gcd_26 (by decide) ?_
    refine r_goto hC 6 dX12_gcd_28 (by decide) ?_
    exact r_subk (hX6 _ _ hw) ⟨rfl, rfl, trivial⟩
def w_m_gcd_L0 (Q : Int → Prop) (M : Mem) (x4 : Int) (x6 : Int) : Prop :=
  ∀ X : Int → Int → Prop, (∀ (x4 : Int) (x6 : Int), w_m_gcd_B0 Q M X x4 x6 → X x4 x6) → X x4 x6
set_option maxRecDepth 100000 in
set_option maxHeartbeats 4000000 in
theorem s_m_gcd_L0 {Q : Int → Prop} {M : Mem} {x4 : Int} {x6 : Int} (hC : rC p R s m args meth c cells slots D aC ad 10 cX12_gcd RX12 0 0 (some .long)) (hQ : ∀ (pc : Nat) (L : List (Nat × RV)) (z : Int), decode cX12_gcd pc = .ok (.lreturn, 1) → Q z → rG p l e R s m args below meth c cells slots Qs D aC ad 10 pc L [vJ z] M) (hw : w_m_gcd_L0 Q M x4 x6) : rG p l e R s m args below meth c cells slots Qs D aC ad 10 6 [(4, vJ x4), (6, vJ x6)] [] M := by
  unfold w_m_gcd_L0 at hw
  exact hw (fun x4 x6 => rG p l e R s m args below meth c cells slots Qs D aC ad 10 6 [(4, vJ x4), (6, vJ x6)] [] M) (fun x4 x6 hb => s_m_gcd_B0 hC hQ (fun _ _ h => h) hb)
def w_m_gcd (M : Mem) (x0 : Int) (x2 : Int) (Q : Int → Prop) : Prop :=
  w_m_gcd_L0 Q M x0 x2
set_option maxRecDepth 100000 in
set_option maxHeartbeats 4000000 in
theorem s_m_gcd {M : Mem} {x0 : Int} {x2 : Int} {Q : Int → Prop} (hC : rC p R s m args meth c cells slots D aC ad 10 cX12_gcd RX12 0 0 (some .long)) (hQ : ∀ (pc : Nat) (L : List (Nat × RV)) (z : Int), decode cX12_gcd pc = .ok (.lreturn, 1) → Q z → rG p l e R s m args below meth c cells slots Qs D aC ad 10 pc L [vJ z] M) (hw : w_m_gcd M x0 x2 Q) : rG p l e R s m args below meth c cells slots Qs D aC ad 10 0 [(0, vJ x0), (2, vJ x2)] [] M := by
  unfold w_m_gcd at hw
  refine r_lload_n hC dX12_gcd_0 rfl rfl ?_
  refine r_lstore hC dX12_gcd_1 (by decide) ?_
  refine r_lload_n hC dX12_gcd_3 rfl rfl ?_
  refine r_lstore hC dX12_gcd_4 (by decide) ?_
  exact r_subk (s_m_gcd_L0 hC hQ hw) ⟨rfl, rfl, trivial⟩
set_option maxRecDepth 100000 in
set_option maxHeartbeats 4000000 in
theorem d_m_gcd {l : Launch} {D : va_G} {aC : Nat → ClassId} {ad : Nat → Nat} {M : Mem} {x0 : Int} {x2 : Int} {Q : Int → Prop} (hw : w_m_gcd M x0 x2 Q) : Does l D aC ad yX12_gcd cX12_gcd 10 (some .long) 0 0 [vJ x0, vJ x2] M (qJ M Q) :=
  Does.of (by decide) (Nat.le_of_ble_eq_true rfl) (fun p e R s m args below meth c hC => r_subk (s_m_gcd hC (fun pc L z d h => r_lret hC d ⟨rfl, ⟨z, rfl, h⟩⟩) hw) ⟨rfl, rfl, trivial⟩)
theorem dd_12_gcd : yX12_gcd.cls ≠ "java/lang/invoke/MethodHandle" ∧ yX12_gcd.cls ≠ "java/lang/invoke/VarHandle" ∧ (parseMethodDescriptor yX12_gcd.desc).map (fun d => d.parameters.length) = some 2 := by decide +kernel
/-- SoupSandModel.share -/
def w_m_share (M : Mem) (x1 : Int) (Q : Int → Prop) : Prop :=
  ∀ a1 : Int, a1 = M 12 35 → -1125899906842624 ≤ a1 → a1 ≤ 1125899906842624 → ∀ a3 : Int, a3 = M 12 36 → -1125899906842624 ≤ a3 → a3 ≤ 1125899906842624 → w_m_gcd M a1 a3 (fun a5 => (-2147483648 ≤ x1 ∧ x1 ≤ 2147483647) ∧ ((¬ (x1 = 0) → ∀ a9 : Int, a9 = M 12 36 → -1125899906842624 ≤ a9 → a9 ≤ 1125899906842624 → ((0 ≤ a9 ∧ a9 ≤ 9223372036854775807) ∧ (0 < a5 ∧ a5 ≤ 9223372036854775807)) ∧ (Q (a9 / a5))) ∧ (x1 = 0 → ∀ a12 : Int, a12 = M 12 35 → -1125899906842624 ≤ a12 → a12 ≤ 1125899906842624 → ((0 ≤ a12 ∧ a12 ≤ 9223372036854775807) ∧ (0 < a5 ∧ a5 ≤ 9223372036854775807)) ∧ (Q (a12 / a5)))))
set_option maxRecDepth 100000 in
set_option maxHeartbeats 4000000 in
theorem s_m_share {M : Mem} {x1 : Int} {Q : Int → Prop} (hC : rC p R s m args meth c cells slots D aC ad 4 cX12_share RX12 1 29 (some .long)) (hQ : ∀ (pc : Nat) (L : List (Nat × RV)) (z : Int), decode cX12_share pc = .ok (.lreturn, 1) → Q z → rG p l e R s m args below meth c cells slots Qs D aC ad 4 pc L [vJ z] M) (hw : w_m_share M x1 Q) : rG p l e R s m args below meth c cells slots Qs D aC ad 4 0 [(0, vR 12), (1, vI x1)] [] M := by
  unfold w_m_share at hw
  refine r_aload_n hC dX12_share_0 rfl rfl ?_
  refine r_getJ hC 35 rfl (by decide) kf12_279 rfl rfl dX12_share_1 (fun b2 b2' => ?_)
  replace hw := hw _ rfl b2 b2'
  refine r_aload_n hC dX12_share_4 rfl rfl ?_
  refine r_getJ hC 36 rfl (by decide) kf12_282 rfl rfl dX12_share_5 (fun b4 b4' => ?_)
  replace hw := hw _ rfl b4 b4'
  refine r_callS hC (d_m_gcd hw) kC12_gcd km12_291 kT12_gcd kN12 dd_12_gcd ⟨Nat.le_of_ble_eq_true rfl, Nat.le_of_ble_eq_true rfl⟩ rfl (Nat.le_of_ble_eq_true rfl) dX12_share_8 (fun r M' hp => ?_)
  obtain ⟨rfl, a5, rfl, hw⟩ := hp
  try dsimp only at hw
  refine r_lstore_n hC dX12_share_11 rfl (by decide) ?_
  refine r_iload_n hC dX12_share_12 rfl rfl ?_
  obtain ⟨o6, hw⟩ := hw
  obtain ⟨hwt, hwf⟩ := hw
  refine r_if_ne hC 25 dX12_share_13 (by decide) o6.1 o6.2 (fun c8 => ?_) (fun c8 => ?_)
  · have hw := hwt c8
    refine r_aload_n hC dX12_share_25 rfl rfl ?_
    refine r_getJ hC 36 rfl (by decide) kf12_282 rfl rfl dX12_share_26 (fun b10 b10' => ?_)
    replace hw := hw _ rfl b10 b10'
    refine r_lload_n hC dX12_share_29 rfl rfl ?_
    obtain ⟨o11, hw⟩ := hw
    refine r_ldiv hC dX12_share_30 o11.1.1 o11.1.2 o11.2.1 o11.2.2 ?_
    exact hQ _ _ _ dX12_share_31 hw
  · have hw := hwf c8
    refine r_aload_n hC dX12_share_16 rfl rfl ?_
    refine r_getJ hC 35 rfl (by decide) kf12_279 rfl rfl dX12_share_17 (fun b13 b13' => ?_)
    replace hw := hw _ rfl b13 b13'
    refine r_lload_n hC dX12_share_20 rfl rfl ?_
    obtain ⟨o14, hw⟩ := hw
    refine r_ldiv hC dX12_share_21 o14.1.1 o14.1.2 o14.2.1 o14.2.2 ?_
    refine r_goto hC 31 dX12_share_22 (by decide) ?_
    exact hQ _ _ _ dX12_share_31 hw
set_option maxRecDepth 100000 in
set_option maxHeartbeats 4000000 in
theorem d_m_share {l : Launch} {D : va_G} {aC : Nat → ClassId} {ad : Nat → Nat} {M : Mem} {x1 : Int} {Q : Int → Prop} (hw : w_m_share M x1 Q) : Does l D aC ad yX12_share cX12_share 4 (some .long) 1 29 [vR 12, vI x1] M (qJ M Q) :=
  Does.of (by decide) (Nat.le_of_ble_eq_true rfl) (fun p e R s m args below meth c hC => r_subk (s_m_share hC (fun pc L z d h => r_lret hC d ⟨rfl, ⟨z, rfl, h⟩⟩) hw) ⟨rfl, rfl, trivial⟩)
theorem dd_12_goThrough : yX12_goThrough.cls ≠ "java/lang/invoke/MethodHandle" ∧ yX12_goThrough.cls ≠ "java/lang/invoke/VarHandle" ∧ (parseMethodDescriptor yX12_goThrough.desc).map (fun d => d.parameters.length) = some 3 := by decide +kernel
theorem dd_12_share : yX12_share.cls ≠ "java/lang/invoke/MethodHandle" ∧ yX12_share.cls ≠ "java/lang/invoke/VarHandle" ∧ (parseMethodDescriptor yX12_share.desc).map (fun d => d.parameters.length) = some 1 := by decide +kernel
/-- SoupSandModel.odds -/
def w_m_odds (M : Mem) (x1 : Int) (x2 : Int) (x3 : Int) (x4 : Int) (Q : Int → Mem → Prop) : Prop :=
  w_m_isLayer M x1 x3 (fun a1 => (-2147483648 ≤ a1 ∧ a1 ≤ 2147483647) ∧ ((a1 = 0 → Q (-1001) M) ∧ (¬ (a1 = 0) → w_m_isShake M x2 (fun a5 => (-2147483648 ≤ a5 ∧ a5 ≤ 2147483647) ∧ ((¬ (a5 = 0) → (-2147483648 ≤ x4 ∧ x4 ≤ 2147483647) ∧ (w_m_in M x4 0 1 (fun a10 => (-2147483648 ≤ a10 ∧ a10 ≤ 2147483647) ∧ ((¬ (a10 = 0) → w_m_goThrough M x1 x2 x3 (fun a14 M15 => (-2147483648 ≤ a14 ∧ a14 ≤ 2147483647) ∧ ((a14 = 0 → Q (-1005) M15) ∧ (¬ (a14 = 0) → w_m_share M15 x4 (fun a19 => Q a19 M15))))) ∧ (a10 = 0 → Q (-1002) M))))) ∧ (a5 = 0 → Q (-1001) M))))))
set_option maxRecDepth 100000 in
set_option maxHeartbeats 4000000 in
theorem s_m_odds {M : Mem} {x1 : Int} {x2 : Int} {x3 : Int} {x4 : Int} {Q : Int → Mem → Prop} (hC : rC p R s m args meth c cells slots D aC ad 5 cX12_odds RX12 9 213 (some .long)) (hQ : ∀ (pc : Nat) (L : List (Nat × RV)) (z : Int) (M : Mem), decode cX12_odds pc = .ok (.lreturn, 1) → Q z M → rG p l e R s m args below meth c cells slots Qs D aC ad 5 pc L [vJ z] M) (hw : w_m_odds M x1 x2 x3 x4 Q) : rG p l e R s m args below meth c cells slots Qs D aC ad 5 0 [(0, vR 12), (1, vI x1), (2, vI x2), (3, vI x3), (4, vI x4)] [] M := by
  unfold w_m_odds at hw
  refine r_aload_n hC dX12_odds_0 rfl rfl ?_
  refine r_iload_n hC dX12_odds_1 rfl rfl ?_
  refine r_iload_n hC dX12_odds_2 rfl rfl ?_
  refine r_callV hC (d_m_isLayer hw) rfl kC12_isLayer km12_186 kI12_isLayer kS12_isLayer kN12 dd_12_isLayer ⟨Nat.le_of_ble_eq_true rfl, Nat.le_of_ble_eq_true rfl⟩ rfl (Nat.le_of_ble_eq_true rfl) dX12_odds_3 (fun r M' hp => ?_)
  obtain ⟨rfl, a1, rfl, hw⟩ := hp
  try dsimp only at hw
  obtain ⟨o2, hw⟩ := hw
  obtain ⟨hwt, hwf⟩ := hw
  refine r_if_eq hC 17 dX12_odds_6 (by decide) o2.1 o2.2 (fun c4 => ?_) (fun c4 => ?_)
  · have hw := hwt c4
    refine r_ldc2 hC (-1001) dX12_odds_17 kL12_306 (by decide) ?_
    exact hQ _ _ _ _ dX12_odds_20 hw
  · have hw := hwf c4
    refine r_aload_n hC dX12_odds_9 rfl rfl ?_
    refine r_iload_n hC dX12_odds_10 rfl rfl ?_
    refine r_callV hC (d_m_isShake hw) rfl kC12_isShake km12_207 kI12_isShake kS12_isShake kN12 dd_12_isShake ⟨Nat.le_of_ble_eq_true rfl, Nat.le_of_ble_eq_true rfl⟩ rfl (Nat.le_of_ble_eq_true rfl) dX12_odds_11 (fun r M' hp => ?_)
    obtain ⟨rfl, a5, rfl, hw⟩ := hp
    try dsimp only at hw
    obtain ⟨o6, hw⟩ := hw
    obtain ⟨hwt, hwf⟩ := hw
    refine r_if_ne hC 21 dX12_odds_14 (by decide) o6.1 o6.2 (fun c8 => ?_) (fun c8 => ?_)
    · have hw := hwt c8
      refine r_iload hC dX12_odds_21 rfl ?_
      obtain ⟨o9, hw⟩ := hw
      refine r_i2l hC dX12_odds_23 o9.1 o9.2 ?_
      refine r_lconst hC 0 dX12_odds_24 (by decide) ?_
      refine r_lconst hC 1 dX12_odds_25 (by decide) ?_
      refine r_callS hC (d_m_in hw) kC12_in km12_165 kT12_in kN12 dd_12_in ⟨Nat.le_of_ble_eq_true rfl, Nat.le_of_ble_eq_true rfl⟩ rfl (Nat.le_of_ble_eq_true rfl) dX12_odds_26 (fun r M' hp => ?_)
      obtain ⟨rfl, a10, rfl, hw⟩ := hp
      try dsimp only at hw
      obtain ⟨o11, hw⟩ := hw
      obtain ⟨hwt, hwf⟩ := hw
      refine r_if_ne hC 36 dX12_odds_29 (by decide) o11.1 o11.2 (fun c13 => ?_) (fun c13 => ?_)
      · have hw := hwt c13
        refine r_aload_n hC dX12_odds_36 rfl rfl ?_
        refine r_iload_n hC dX12_odds_37 rfl rfl ?_
        refine r_iload_n hC dX12_odds_38 rfl rfl ?_
        refine r_iload_n hC dX12_odds_39 rfl rfl ?_
        refine r_callV hC (d_m_goThrough hw) rfl kC12_goThrough km12_310 kI12_goThrough kS12_goThrough kN12 dd_12_goThrough ⟨Nat.le_of_ble_eq_true rfl, Nat.le_of_ble_eq_true rfl⟩ rfl (Nat.le_of_ble_eq_true rfl) dX12_odds_40 (fun r M' hp => ?_)
        obtain ⟨a14, rfl, hw⟩ := hp
        try dsimp only at hw
        obtain ⟨o16, hw⟩ := hw
        obtain ⟨hwt, hwf⟩ := hw
        refine r_if_eq hC 55 dX12_odds_43 (by decide) o16.1 o16.2 (fun c18 => ?_) (fun c18 => ?_)
        · have hw := hwt c18
          refine r_ldc2 hC (-1005) dX12_odds_55 kL12_318 (by decide) ?_
          exact hQ _ _ _ _ dX12_odds_58 hw
        · have hw := hwf c18
          refine r_aload_n hC dX12_odds_46 rfl rfl ?_
          refine r_iload hC dX12_odds_47 rfl ?_
          refine r_callV hC (d_m_share hw) rfl kC12_share km12_314 kI12_share kS12_share kN12 dd_12_share ⟨Nat.le_of_ble_eq_true rfl, Nat.le_of_ble_eq_true rfl⟩ rfl (Nat.le_of_ble_eq_true rfl) dX12_odds_49 (fun r M' hp => ?_)
          obtain ⟨rfl, a19, rfl, hw⟩ := hp
          try dsimp only at hw
          refine r_goto hC 58 dX12_odds_52 (by decide) ?_
          exact hQ _ _ _ _ dX12_odds_58 hw
      · have hw := hwf c13
        refine r_ldc2 hC (-1002) dX12_odds_32 kL12_308 (by decide) ?_
        exact hQ _ _ _ _ dX12_odds_35 hw
    · have hw := hwf c8
      refine r_ldc2 hC (-1001) dX12_odds_17 kL12_306 (by decide) ?_
      exact hQ _ _ _ _ dX12_odds_20 hw
set_option maxRecDepth 100000 in
set_option maxHeartbeats 4000000 in
theorem d_m_odds {l : Launch} {D : va_G} {aC : Nat → ClassId} {ad : Nat → Nat} {M : Mem} {x1 : Int} {x2 : Int} {x3 : Int} {x4 : Int} {Q : Int → Mem → Prop} (hw : w_m_odds M x1 x2 x3 x4 Q) : Does l D aC ad yX12_odds cX12_odds 5 (some .long) 9 213 [vR 12, vI x1, vI x2, vI x3, vI x4] M (pJ Q) :=
  Does.of (by decide) (Nat.le_of_ble_eq_true rfl) (fun p e R s m args below meth c hC => r_subk (s_m_odds hC (fun pc L z M d h => r_lret hC d ⟨z, rfl, h⟩) hw) ⟨rfl, rfl, rfl, rfl, rfl, trivial⟩)
/-- SoupSandModel.step -/
def w_m_step (M : Mem) (x1 : Int) (x2 : Int) (x3 : Int) (x4 : Int) (Q : Int → Mem → Prop) : Prop :=
  w_m_isLayer M x1 x3 (fun a1 => (-2147483648 ≤ a1 ∧ a1 ≤ 2147483647) ∧ ((a1 = 0 → Q (-1001) M) ∧ (¬ (a1 = 0) → w_m_isShake M x2 (fun a5 => (-2147483648 ≤ a5 ∧ a5 ≤ 2147483647) ∧ ((¬ (a5 = 0) → (-2147483648 ≤ x4 ∧ x4 ≤ 2147483647) ∧ (w_m_in M x4 0 1 (fun a10 => (-2147483648 ≤ a10 ∧ a10 ≤ 2147483647) ∧ ((¬ (a10 = 0) → w_m_goThrough M x1 x2 x3 (fun a14 M15 => (-2147483648 ≤ a14 ∧ a14 ≤ 2147483647) ∧ ((¬ (a14 = 0) → (-2147483648 ≤ x4 ∧ x4 ≤ 2147483647) ∧ ((¬ (x4 = 0) → ∀ a22 : Int, a22 = M15 12 35 → -1125899906842624 ≤ a22 → a22 ≤ 1125899906842624 → ∀ a24 : Int, a24 = M15 12 36 → -1125899906842624 ≤ a24 → a24 ≤ 1125899906842624 → (a24 ≤ a22 → ∀ a29 : Int, a29 = M15 12 38 → -2147483648 ≤ a29 → a29 ≤ 2147483647 → Q a29 M15) ∧ (¬ (a24 ≤ a22) → Q (-1) M15)) ∧ (x4 = 0 → ∀ a31 : Int, a31 = M15 12 37 → -2147483648 ≤ a31 → a31 ≤ 2147483647 → Q a31 M15))) ∧ (a14 = 0 → Q (-1005) M15)))) ∧ (a10 = 0 → Q (-1002) M))))) ∧ (a5 = 0 → Q (-1001) M))))))
set_option maxRecDepth 100000 in
set_option maxHeartbeats 4000000 in
theorem s_m_step {M : Mem} {x1 : Int} {x2 : Int} {x3 : Int} {x4 : Int} {Q : Int → Mem → Prop} (hC : rC p R s m args meth c cells slots D aC ad 5 cX12_step RX12 9 213 (some .int)) (hQ : ∀ (pc : Nat) (L : List (Nat × RV)) (z : Int) (M : Mem), decode cX12_step pc = .ok (.ireturn, 1) → Q z M → rG p l e R s m args below meth c cells slots Qs D aC ad 5 pc L [vI z] M) (hw : w_m_step M x1 x2 x3 x4 Q) : rG p l e R s m args below meth c cells slots Qs D aC ad 5 0 [(0, vR 12), (1, vI x1), (2, vI x2), (3, vI x3), (4, vI x4)] [] M := by
  unfold w_m_step at hw
  refine r_aload_n hC dX12_step_0 rfl rfl ?_
  refine r_iload_n hC dX12_step_1 rfl rfl ?_
  refine r_iload_n hC dX12_step_2 rfl rfl ?_
  refine r_callV hC (d_m_isLayer hw) rfl kC12_isLayer km12_186 kI12_isLayer kS12_isLayer kN12 dd_12_isLayer ⟨Nat.le_of_ble_eq_true rfl, Nat.le_of_ble_eq_true rfl⟩ rfl (Nat.le_of_ble_eq_true rfl) dX12_step_3 (fun r M' hp => ?_)
  obtain ⟨rfl, a1, rfl, hw⟩ := hp
  try dsimp only at hw
  obtain ⟨o2, hw⟩ := hw
  obtain ⟨hwt, hwf⟩ := hw
  refine r_if_eq hC 17 dX12_step_6 (by decide) o2.1 o2.2 (fun c4 => ?_) (fun c4 => ?_)
  · have hw := hwt c4
    refine r_sipush hC dX12_step_17 (by decide) ?_
    exact hQ _ _ _ _ dX12_step_20 hw
  · have hw := hwf c4
    refine r_aload_n hC dX12_step_9 rfl rfl ?_
    refine r_iload_n hC dX12_step_10 rfl rfl ?_
    refine r_callV hC (d_m_isShake hw) rfl kC12_isShake km12_207 kI12_isShake kS12_isShake kN12 dd_12_isShake ⟨Nat.le_of_ble_eq_true rfl, Nat.le_of_ble_eq_true rfl⟩ rfl (Nat.le_of_ble_eq_true rfl) dX12_step_11 (fun r M' hp => ?_)
    obtain ⟨rfl, a5, rfl, hw⟩ := hp
    try dsimp only at hw
    obtain ⟨o6, hw⟩ := hw
    obtain ⟨hwt, hwf⟩ := hw
    refine r_if_ne hC 21 dX12_step_14 (by decide) o6.1 o6.2 (fun c8 => ?_) (fun c8 => ?_)
    · have hw := hwt c8
      refine r_iload hC dX12_step_21 rfl ?_
      obtain ⟨o9, hw⟩ := hw
      refine r_i2l hC dX12_step_23 o9.1 o9.2 ?_
      refine r_lconst hC 0 dX12_step_24 (by decide) ?_
      refine r_lconst hC 1 dX12_step_25 (by decide) ?_
      refine r_callS hC (d_m_in hw) kC12_in km12_165 kT12_in kN12 dd_12_in ⟨Nat.le_of_ble_eq_true rfl, Nat.le_of_ble_eq_true rfl⟩ rfl (Nat.le_of_ble_eq_true rfl) dX12_step_26 (fun r M' hp => ?_)
      obtain ⟨rfl, a10, rfl, hw⟩ := hp
      try dsimp only at hw
      obtain ⟨o11, hw⟩ := hw
      obtain ⟨hwt, hwf⟩ := hw
      refine r_if_ne hC 36 dX12_step_29 (by decide) o11.1 o11.2 (fun c13 => ?_) (fun c13 => ?_)
      · have hw := hwt c13
        refine r_aload_n hC dX12_step_36 rfl rfl ?_
        refine r_iload_n hC dX12_step_37 rfl rfl ?_
        refine r_iload_n hC dX12_step_38 rfl rfl ?_
        refine r_iload_n hC dX12_step_39 rfl rfl ?_
        refine r_callV hC (d_m_goThrough hw) rfl kC12_goThrough km12_310 kI12_goThrough kS12_goThrough kN12 dd_12_goThrough ⟨Nat.le_of_ble_eq_true rfl, Nat.le_of_ble_eq_true rfl⟩ rfl (Nat.le_of_ble_eq_true rfl) dX12_step_40 (fun r M' hp => ?_)
        obtain ⟨a14, rfl, hw⟩ := hp
        try dsimp only at hw
        obtain ⟨o16, hw⟩ := hw
        obtain ⟨hwt, hwf⟩ := hw
        refine r_if_ne hC 50 dX12_step_43 (by decide) o16.1 o16.2 (fun c18 => ?_) (fun c18 => ?_)
        · have hw := hwt c18
          refine r_iload hC dX12_step_50 rfl ?_
          obtain ⟨o19, hw⟩ := hw
          obtain ⟨hwt, hwf⟩ := hw
          refine r_if_ne hC 62 dX12_step_52 (by decide) o19.1 o19.2 (fun c21 => ?_) (fun c21 => ?_)
          · have hw := hwt c21
            refine r_aload_n hC dX12_step_62 rfl rfl ?_
            refine r_getJ hC 35 rfl (by decide) kf12_279 rfl rfl dX12_step_63 (fun b23 b23' => ?_)
            replace hw := hw _ rfl b23 b23'
            refine r_aload_n hC dX12_step_66 rfl rfl ?_
            refine r_getJ hC 36 rfl (by decide) kf12_282 rfl rfl dX12_step_67 (fun b25 b25' => ?_)
            replace hw := hw _ rfl b25 b25'
            obtain ⟨hwt, hwf⟩ := hw
            refine r_lcmp_ge hC 78 dX12_step_70 dX12_step_71 (by decide) (by omega) (by omega) (by omega) (by omega) (fun c28 => ?_) (fun c28 => ?_)
            · have hw := hwt c28
              refine r_aload_n hC dX12_step_78 rfl rfl ?_
              refine r_getI hC 38 rfl (by decide) kf12_288 rfl rfl dX12_step_79 (fun b30 b30' => ?_)
              replace hw := hw _ rfl b30 b30'
              exact hQ _ _ _ _ dX12_step_82 hw
            · have hw := hwf c28
              refine r_iconst hC dX12_step_74 ?_
              refine r_goto hC 82 dX12_step_75 (by decide) ?_
              exact hQ _ _ _ _ dX12_step_82 hw
          · have hw := hwf c21
            refine r_aload_n hC dX12_step_55 rfl rfl ?_
            refine r_getI hC 37 rfl (by decide) kf12_285 rfl rfl dX12_step_56 (fun b32 b32' => ?_)
            replace hw := hw _ rfl b32 b32'
            refine r_goto hC 82 dX12_step_59 (by decide) ?_
            exact hQ _ _ _ _ dX12_step_82 hw
        · have hw := hwf c18
          refine r_sipush hC dX12_step_46 (by decide) ?_
          exact hQ _ _ _ _ dX12_step_49 hw
      · have hw := hwf c13
        refine r_sipush hC dX12_step_32 (by decide) ?_
        exact hQ _ _ _ _ dX12_step_35 hw
    · have hw := hwf c8
      refine r_sipush hC dX12_step_17 (by decide) ?_
      exact hQ _ _ _ _ dX12_step_20 hw
set_option maxRecDepth 100000 in
set_option maxHeartbeats 4000000 in
theorem d_m_step {l : Launch} {D : va_G} {aC : Nat → ClassId} {ad : Nat → Nat} {M : Mem} {x1 : Int} {x2 : Int} {x3 : Int} {x4 : Int} {Q : Int → Mem → Prop} (hw : w_m_step M x1 x2 x3 x4 Q) : Does l D aC ad yX12_step cX12_step 5 (some .int) 9 213 [vR 12, vI x1, vI x2, vI x3, vI x4] M (pI Q) :=
  Does.of (by decide) (Nat.le_of_ble_eq_true rfl) (fun p e R s m args below meth c hC => r_subk (s_m_step hC (fun pc L z M d h => r_iret hC d ⟨z, rfl, h⟩) hw) ⟨rfl, rfl, rfl, rfl, rfl, trivial⟩)
/-- SoupSandModel.house -/
def w_m_house (M : Mem) (x1 : Int) (x2 : Int) (x3 : Int) (Q : Int → Mem → Prop) : Prop :=
  w_m_isColumn M x1 (fun a1 => (-2147483648 ≤ a1 ∧ a1 ≤ 2147483647) ∧ ((¬ (a1 = 0) → (-2147483648 ≤ x2 ∧ x2 ≤ 2147483647) ∧ (w_m_in M x2 1 60 (fun a6 => (-2147483648 ≤ a6 ∧ a6 ≤ 2147483647) ∧ ((a6 = 0 → Q (-1002) M) ∧ (¬ (a6 = 0) → (-2147483648 ≤ x3 ∧ x3 ≤ 2147483647) ∧ (w_m_in M x3 0 9999 (fun a11 => (-2147483648 ≤ a11 ∧ a11 ≤ 2147483647) ∧ ((¬ (a11 = 0) → ∀ a15 : Int, a15 = M 12 39 → 0 ≤ a15 → a15 ≤ 8 → (¬ (a15 = 8) → ∀ a20 : Int, a20 = M 12 39 → 0 ≤ a20 → a20 ≤ 8 → ((0 ≤ a20 ∧ a20 < 8) ∧ (0 ≤ x1 ∧ x1 ≤ 5)) ∧ (∀ M23 : Mem, M23 = mset M 83 a20 x1 → ∀ a24 : Int, a24 = M23 12 39 → 0 ≤ a24 → a24 ≤ 8 → ((0 ≤ a24 ∧ a24 < 8) ∧ (0 ≤ x2 ∧ x2 ≤ 60)) ∧ (∀ M27 : Mem, M27 = mset M23 84 a24 x2 → ∀ a28 : Int, a28 = M27 12 39 → 0 ≤ a28 → a28 ≤ 8 → ((0 ≤ a28 ∧ a28 < 8) ∧ (0 ≤ x3 ∧ x3 ≤ 9999)) ∧ (∀ M31 : Mem, M31 = mset M27 85 a28 x3 → ∀ a32 : Int, a32 = M31 12 39 → 0 ≤ a32 → a32 ≤ 8 → (0 ≤ a32 + 1 ∧ a32 + 1 ≤ 8) ∧ (∀ M35 : Mem, M35 = mset M31 12 39 (a32 + 1) → ∀ a36 : Int, a36 = M35 12 39 → 0 ≤ a36 → a36 ≤ 8 → Q (a36 - 1) M35))))) ∧ (a15 = 8 → Q (-1004) M)) ∧ (a11 = 0 → Q (-1002) M))))))))) ∧ (a1 = 0 → Q (-1001) M)))
set_option maxRecDepth 100000 in
set_option maxHeartbeats 4000000 in
theorem s_m_house {M : Mem} {x1 : Int} {x2 : Int} {x3 : Int} {Q : Int → Mem → Prop} (hC : rC p R s m args meth c cells slots D aC ad 4 cX12_house RX12 2 45 (some .int)) (hQ : ∀ (pc : Nat) (L : List (Nat × RV)) (z : Int) (M : Mem), decode cX12_house pc = .ok (.ireturn, 1) → Q z M → rG p l e R s m args below meth c cells slots Qs D aC ad 4 pc L [vI z] M) (hw : w_m_house M x1 x2 x3 Q) : rG p l e R s m args below meth c cells slots Qs D aC ad 4 0 [(0, vR 12), (1, vI x1), (2, vI x2), (3, vI x3)] [] M := by
  unfold w_m_house at hw
  refine r_iload_n hC dX12_house_0 rfl rfl ?_
  refine r_callS hC (d_m_isColumn hw) kC12_isColumn km12_169 kT12_isColumn kN12 dd_12_isColumn ⟨Nat.le_of_ble_eq_true rfl, Nat.le_of_ble_eq_true rfl⟩ rfl (Nat.le_of_ble_eq_true rfl) dX12_house_1 (fun r M' hp => ?_)
  obtain ⟨rfl, a1, rfl, hw⟩ := hp
  try dsimp only at hw
  obtain ⟨o2, hw⟩ := hw
  obtain ⟨hwt, hwf⟩ := hw
  refine r_if_ne hC 11 dX12_house_4 (by decide) o2.1 o2.2 (fun c4 => ?_) (fun c4 => ?_)
  · have hw := hwt c4
    refine r_iload_n hC dX12_house_11 rfl rfl ?_
    obtain ⟨o5, hw⟩ := hw
    refine r_i2l hC dX12_house_12 o5.1 o5.2 ?_
    refine r_lconst hC 1 dX12_house_13 (by decide) ?_
    refine r_ldc2 hC (60) dX12_house_14 kL12_182 (by decide) ?_
    refine r_callS hC (d_m_in hw) kC12_in km12_165 kT12_in kN12 dd_12_in ⟨Nat.le_of_ble_eq_true rfl, Nat.le_of_ble_eq_true rfl⟩ rfl (Nat.le_of_ble_eq_true rfl) dX12_house_17 (fun r M' hp => ?_)
    obtain ⟨rfl, a6, rfl, hw⟩ := hp
    try dsimp only at hw
    obtain ⟨o7, hw⟩ := hw
    obtain ⟨hwt, hwf⟩ := hw
    refine r_if_eq hC 35 dX12_house_20 (by decide) o7.1 o7.2 (fun c9 => ?_) (fun c9 => ?_)
    · have hw := hwt c9
      refine r_sipush hC dX12_house_35 (by decide) ?_
      exact hQ _ _ _ _ dX12_house_38 hw
    · have hw := hwf c9
      refine r_iload_n hC dX12_house_23 rfl rfl ?_
      obtain ⟨o10, hw⟩ := hw
      refine r_i2l hC dX12_house_24 o10.1 o10.2 ?_
      refine r_lconst hC 0 dX12_house_25 (by decide) ?_
      refine r_ldc2 hC (9999) dX12_house_26 kL12_320 (by decide) ?_
      refine r_callS hC (d_m_in hw) kC12_in km12_165 kT12_in kN12 dd_12_in ⟨Nat.le_of_ble_eq_true rfl, Nat.le_of_ble_eq_true rfl⟩ rfl (Nat.le_of_ble_eq_true rfl) dX12_house_29 (fun r M' hp => ?_)
      obtain ⟨rfl, a11, rfl, hw⟩ := hp
      try dsimp only at hw
      obtain ⟨o12, hw⟩ := hw
      obtain ⟨hwt, hwf⟩ := hw
      refine r_if_ne hC 39 dX12_house_32 (by decide) o12.1 o12.2 (fun c14 => ?_) (fun c14 => ?_)
      · have hw := hwt c14
        refine r_aload_n hC dX12_house_39 rfl rfl ?_
        refine r_getI hC 39 rfl (by decide) kf12_213 rfl rfl dX12_house_40 (fun b16 b16' => ?_)
        replace hw := hw _ rfl b16 b16'
        refine r_bipush hC dX12_house_43 (by decide) ?_
        obtain ⟨hwt, hwf⟩ := hw
        refine r_icmp_ne hC 52 dX12_house_45 (by decide) (by omega) (by omega) (by decide) (by decide) (fun c19 => ?_) (fun c19 => ?_)
        · have hw := hwt c19
          refine r_aload_n hC dX12_house_52 rfl rfl ?_
          refine r_getR hC 40 rfl (by decide) kf12_101 rfl rfl dX12_house_53 ?_
          refine r_aload_n hC dX12_house_56 rfl rfl ?_
          refine r_getI hC 39 rfl (by decide) kf12_213 rfl rfl dX12_house_57 (fun b21 b21' => ?_)
          replace hw := hw _ rfl b21 b21'
          refine r_iload_n hC dX12_house_60 rfl rfl ?_
          obtain ⟨o22, hw⟩ := hw
          refine r_iast hC rfl o22.1.1 o22.1.2 (by decide) (by decide) o22.2.1 o22.2.2 dX12_house_61 ?_
          replace hw := hw _ rfl
          refine r_aload_n hC dX12_house_62 rfl rfl ?_
          refine r_getR hC 41 rfl (by decide) kf12_104 rfl rfl dX12_house_63 ?_
          refine r_aload_n hC dX12_house_66 rfl rfl ?_
          refine r_getI hC 39 rfl (by decide) kf12_213 rfl rfl dX12_house_67 (fun b25 b25' => ?_)
          replace hw := hw _ rfl b25 b25'
          refine r_iload_n hC dX12_house_70 rfl rfl ?_
          obtain ⟨o26, hw⟩ := hw
          refine r_iast hC rfl o26.1.1 o26.1.2 (by decide) (by decide) o26.2.1 o26.2.2 dX12_house_71 ?_
          replace hw := hw _ rfl
          refine r_aload_n hC dX12_house_72 rfl rfl ?_
          refine r_getR hC 42 rfl (by decide) kf12_107 rfl rfl dX12_house_73 ?_
          refine r_aload_n hC dX12_house_76 rfl rfl ?_
          refine r_getI hC 39 rfl (by decide) kf12_213 rfl rfl dX12_house_77 (fun b29 b29' => ?_)
          replace hw := hw _ rfl b29 b29'
          refine r_iload_n hC dX12_house_80 rfl rfl ?_
          obtain ⟨o30, hw⟩ := hw
          refine r_iast hC rfl o30.1.1 o30.1.2 (by decide) (by decide) o30.2.1 o30.2.2 dX12_house_81 ?_
          replace hw := hw _ rfl
          refine r_aload_n hC dX12_house_82 rfl rfl ?_
          refine r_dup hC dX12_house_83 rfl ?_
          refine r_getI hC 39 rfl (by decide) kf12_213 rfl rfl dX12_house_84 (fun b33 b33' => ?_)
          replace hw := hw _ rfl b33 b33'
          refine r_iconst hC dX12_house_87 ?_
          refine r_iadd hC dX12_house_88 ?_
          obtain ⟨o34, hw⟩ := hw
          refine r_putI hC 39 rfl (by decide) kf12_213 rfl rfl o34.1 o34.2 dX12_house_89 ?_
          replace hw := hw _ rfl
          refine r_aload_n hC dX12_house_92 rfl rfl ?_
          refine r_getI hC 39 rfl (by decide) kf12_213 rfl rfl dX12_house_93 (fun b37 b37' => ?_)
          replace hw := hw _ rfl b37 b37'
          refine r_iconst hC dX12_house_96 ?_
          refine r_isub hC dX12_house_97 ?_
          exact hQ _ _ _ _ dX12_house_98 hw
        · have hw := hwf c19
          refine r_sipush hC dX12_house_48 (by decide) ?_
          exact hQ _ _ _ _ dX12_house_51 hw
      · have hw := hwf c14
        refine r_sipush hC dX12_house_35 (by decide) ?_
        exact hQ _ _ _ _ dX12_house_38 hw
  · have hw := hwf c4
    refine r_sipush hC dX12_house_7 (by decide) ?_
    exact hQ _ _ _ _ dX12_house_10 hw
set_option maxRecDepth 100000 in
set_option maxHeartbeats 4000000 in
theorem d_m_house {l : Launch} {D : va_G} {aC : Nat → ClassId} {ad : Nat → Nat} {M : Mem} {x1 : Int} {x2 : Int} {x3 : Int} {Q : Int → Mem → Prop} (hw : w_m_house M x1 x2 x3 Q) : Does l D aC ad yX12_house cX12_house 4 (some .int) 2 45 [vR 12, vI x1, vI x2, vI x3] M (pI Q) :=
  Does.of (by decide) (Nat.le_of_ble_eq_true rfl) (fun p e R s m args below meth c hC => r_subk (s_m_house hC (fun pc L z M d h => r_iret hC d ⟨z, rfl, h⟩) hw) ⟨rfl, rfl, rfl, rfl, trivial⟩)
/-- SoupSandModel.isHouse -/
def w_m_isHouse (M : Mem) (x1 : Int) (Q : Int → Prop) : Prop :=
  (-2147483648 ≤ x1 ∧ x1 ≤ 2147483647) ∧ (∀ a2 : Int, a2 = M 12 39 → 0 ≤ a2 → a2 ≤ 8 → w_m_in M x1 0 (a2 - 1) (fun a5 => (0 ≤ a5 ∧ a5 ≤ 1) ∧ (Q a5)))
set_option maxRecDepth 100000 in
set_option maxHeartbeats 4000000 in
theorem s_m_isHouse {M : Mem} {x1 : Int} {Q : Int → Prop} (hC : rC p R s m args meth c cells slots D aC ad 2 cX12_isHouse RX12 1 25 (some .boolean)) (hQ : ∀ (pc : Nat) (L : List (Nat × RV)) (z : Int), decode cX12_isHouse pc = .ok (.ireturn, 1) → 0 ≤ z → z ≤ 1 → Q z → rG p l e R s m args below meth c cells slots Qs D aC ad 2 pc L [vI z] M) (hw : w_m_isHouse M x1 Q) : rG p l e R s m args below meth c cells slots Qs D aC ad 2 0 [(0, vR 12), (1, vI x1)] [] M := by
  unfold w_m_isHouse at hw
  refine r_iload_n hC dX12_isHouse_0 rfl rfl ?_
  obtain ⟨o1, hw⟩ := hw
  refine r_i2l hC dX12_isHouse_1 o1.1 o1.2 ?_
  refine r_lconst hC 0 dX12_isHouse_2 (by decide) ?_
  refine r_aload_n hC dX12_isHouse_3 rfl rfl ?_
  refine r_getI hC 39 rfl (by decide) kf12_213 rfl rfl dX12_isHouse_4 (fun b3 b3' => ?_)
  replace hw := hw _ rfl b3 b3'
  refine r_iconst hC dX12_isHouse_7 ?_
  refine r_isub hC dX12_isHouse_8 ?_
  refine r_i2l hC dX12_isHouse_9 (by omega) (by omega) ?_
  refine r_callS hC (d_m_in hw) kC12_in km12_165 kT12_in kN12 dd_12_in ⟨Nat.le_of_ble_eq_true rfl, Nat.le_of_ble_eq_true rfl⟩ rfl (Nat.le_of_ble_eq_true rfl) dX12_isHouse_10 (fun r M' hp => ?_)
  obtain ⟨rfl, a5, rfl, hw⟩ := hp
  try dsimp only at hw
  obtain ⟨o6, hw⟩ := hw
  exact hQ _ _ _ dX12_isHouse_13 o6.1 o6.2 hw
set_option maxRecDepth 100000 in
set_option maxHeartbeats 4000000 in
theorem d_m_isHouse {l : Launch} {D : va_G} {aC : Nat → ClassId} {ad : Nat → Nat} {M : Mem} {x1 : Int} {Q : Int → Prop} (hw : w_m_isHouse M x1 Q) : Does l D aC ad yX12_isHouse cX12_isHouse 2 (some .boolean) 1 25 [vR 12, vI x1] M (qI M Q) :=
  Does.of (by decide) (Nat.le_of_ble_eq_true rfl) (fun p e R s m args below meth c hC => r_subk (s_m_isHouse hC (fun pc L z d z1 z2 h => r_zret hC d z1 z2 ⟨rfl, ⟨z, rfl, h⟩⟩) hw) ⟨rfl, rfl, trivial⟩)
/-- SoupSandModel.part -/
def w_m_part_j0 (Q : Int → Prop) (x2 : Int) (x3 : Int) (x4 : Int) (s0 : Int) (M : Mem) : Prop :=
  (0 ≤ x2 ∧ x2 < 6) ∧ (∀ a2 : Int, a2 = M 70 x2 → -1 ≤ a2 → a2 ≤ 59 → (a2 < 0 → Q 0) ∧ (¬ (a2 < 0) → (-2147483648 ≤ s0 ∧ s0 ≤ 2147483647) ∧ ((-2147483648 ≤ x4 ∧ x4 ≤ 2147483647) ∧ ((x4 < s0 → (0 ≤ (6 * x3) + x2 ∧ (6 * x3) + x2 < 36) ∧ (∀ a11 : Int, a11 = M 56 ((6 * x3) + x2) → 0 ≤ a11 → a11 ≤ 3 → ∀ a14 : Int, a14 = M 64 ((5 * a11) + 3) → 0 ≤ a14 → a14 ≤ 999 → (0 ≤ (s0 - x4) * a14 ∧ (s0 - x4) * a14 ≤ 2147483647) ∧ (Q (((s0 - x4) * a14) / 100)))) ∧ (¬ (x4 < s0) → Q 0)))))
set_option maxRecDepth 100000 in
set_option maxHeartbeats 4000000 in
theorem s_m_part_j0 {Q : Int → Prop} {x2 : Int} {x3 : Int} {x4 : Int} {s0 : Int} {M : Mem} (hC : rC p R s m args meth c cells slots D aC ad 6 cX12_part RX12 1 24 (some .int)) (hQ : ∀ (pc : Nat) (L : List (Nat × RV)) (z : Int), decode cX12_part pc = .ok (.ireturn, 1) → Q z → rG p l e R s m args below meth c cells slots Qs D aC ad 6 pc L [vI z] M) (hw : w_m_part_j0 Q x2 x3 x4 s0 M) : rG p l e R s m args below meth c cells slots Qs D aC ad 6 57 [(0, vR 12), (2, vI x2), (3, vI x3), (4, vI x4)] [vI s0] M := by
  unfold w_m_part_j0 at hw
  refine r_istore hC dX12_part_57 (by decide) ?_
  refine r_aload_n hC dX12_part_59 rfl rfl ?_
  refine r_getR hC 19 rfl (by decide) kf12_62 rfl rfl dX12_part_60 ?_
  refine r_iload_n hC dX12_part_63 rfl rfl ?_
  obtain ⟨o1, hw⟩ := hw
  refine r_iald hC rfl o1.1 o1.2 (by decide) (by decide) dX12_part_64 (fun b3 b3' => ?_)
  replace hw := hw _ rfl b3 b3'
  obtain ⟨hwt, hwf⟩ := hw
  refine r_if_lt hC 75 dX12_part_65 (by decide) (by omega) (by omega) (fun c6 => ?_) (fun c6 => ?_)
  · have hw := hwt c6
    refine r_iconst hC dX12_part_75 ?_
    refine r_goto hC 108 dX12_part_76 (by decide) ?_
    exact hQ _ _ _ dX12_part_108 hw
  · have hw := hwf c6
    refine r_iload hC dX12_part_68 rfl ?_
    refine r_iload hC dX12_part_70 rfl ?_
    obtain ⟨o7, hw⟩ := hw
    obtain ⟨o8, hw⟩ := hw
    obtain ⟨hwt, hwf⟩ := hw
    refine r_icmp_gt hC 79 dX12_part_72 (by decide) o7.1 o7.2 o8.1 o8.2 (fun c9 => ?_) (fun c9 => ?_)
    · have hw := hwt c9
      refine r_iload hC dX12_part_79 rfl ?_
      refine r_iload hC dX12_part_81 rfl ?_
      refine r_isub hC dX12_part_83 ?_
      refine r_aload_n hC dX12_part_84 rfl rfl ?_
      refine r_getR hC 12 rfl (by decide) kf12_43 rfl rfl dX12_part_85 ?_
      refine r_iconst hC dX12_part_88 ?_
      refine r_aload_n hC dX12_part_89 rfl rfl ?_
      refine r_getR hC 3 rfl (by decide) kf12_19 rfl rfl dX12_part_90 ?_
      refine r_bipush hC dX12_part_93 (by decide) ?_
      refine r_iload_n hC dX12_part_95 rfl rfl ?_
      refine r_imul hC dX12_part_96 ?_
      refine r_iload_n hC dX12_part_97 rfl rfl ?_
      refine r_iadd hC dX12_part_98 ?_
      obtain ⟨o10, hw⟩ := hw
      refine r_iald hC rfl o10.1 o10.2 (by decide) (by decide) dX12_part_99 (fun b12 b12' => ?_)
      replace hw := hw _ rfl b12 b12'
      refine r_imul hC dX12_part_100 ?_
      refine r_iconst hC dX12_part_101 ?_
      refine r_iadd hC dX12_part_102 ?_
      refine r_iald hC rfl (by omega) (by omega) (by decide) (by decide) dX12_part_103 (fun b15 b15' => ?_)
      replace hw := hw _ rfl b15 b15'
      refine r_imul hC dX12_part_104 ?_
      refine r_bipush hC dX12_part_105 (by decide) ?_
      obtain ⟨o16, hw⟩ := hw
      refine r_idiv hC dX12_part_107 o16.1 o16.2 (by decide) (by decide) ?_
      exact hQ _ _ _ dX12_part_108 hw
    · have hw := hwf c9
      refine r_iconst hC dX12_part_75 ?_
      refine r_goto hC 108 dX12_part_76 (by decide) ?_
      exact hQ _ _ _ dX12_part_108 hw
def w_m_part (M : Mem) (x1 : Int) (x2 : Int) (Q : Int → Prop) : Prop :=
  (0 ≤ x1 ∧ x1 < 8) ∧ (∀ a2 : Int, a2 = M 83 x1 → 0 ≤ a2 → a2 ≤ 5 → w_m_depth M a2 x2 (fun a4 => (0 ≤ (6 * a2) + x2 ∧ (6 * a2) + x2 < 36) ∧ (∀ a6 : Int, a6 = M 57 ((6 * a2) + x2) → 0 ≤ a6 → a6 ≤ 60 → (0 ≤ x1 ∧ x1 < 8) ∧ (∀ a9 : Int, a9 = M 84 x1 → 0 ≤ a9 → a9 ≤ 60 → (-2147483648 ≤ a4 + a6 ∧ a4 + a6 ≤ 2147483647) ∧ ((a4 + a6 ≤ 2 * a9 → w_m_part_j0 Q x2 a2 a4 (a4 + a6) M) ∧ (¬ (a4 + a6 ≤ 2 * a9) → (0 ≤ x1 ∧ x1 < 8) ∧ (∀ a15 : Int, a15 = M 84 x1 → 0 ≤ a15 → a15 ≤ 60 → w_m_part_j0 Q x2 a2 a4 (2 * a15) M)))))))
set_option maxRecDepth 100000 in
set_option maxHeartbeats 4000000 in
theorem s_m_part {M : Mem} {x1 : Int} {x2 : Int} {Q : Int → Prop} (hC : rC p R s m args meth c cells slots D aC ad 6 cX12_part RX12 1 24 (some .int)) (hQ : ∀ (pc : Nat) (L : List (Nat × RV)) (z : Int), decode cX12_part pc = .ok (.ireturn, 1) → Q z → rG p l e R s m args below meth c cells slots Qs D aC ad 6 pc L [vI z] M) (hw : w_m_part M x1 x2 Q) : rG p l e R s m args below meth c cells slots Qs D aC ad 6 0 [(0, vR 12), (1, vI x1), (2, vI x2)] [] M := by
  unfold w_m_part at hw
  refine r_aload_n hC dX12_part_0 rfl rfl ?_
  refine r_getR hC 40 rfl (by decide) kf12_101 rfl rfl dX12_part_1 ?_
  refine r_iload_n hC dX12_part_4 rfl rfl ?_
  obtain ⟨o1, hw⟩ := hw
  refine r_iald hC rfl o1.1 o1.2 (by decide) (by decide) dX12_part_5 (fun b3 b3' => ?_)
  replace hw := hw _ rfl b3 b3'
  refine r_istore_n hC dX12_part_6 rfl (by decide) ?_
  refine r_aload_n hC dX12_part_7 rfl rfl ?_
  refine r_iload_n hC dX12_part_8 rfl rfl ?_
  refine r_iload_n hC dX12_part_9 rfl rfl ?_
  refine r_callV hC (d_m_depth hw) rfl kC12_depth km12_192 kI12_depth kS12_depth kN12 dd_12_depth ⟨Nat.le_of_ble_eq_true rfl, Nat.le_of_ble_eq_true rfl⟩ rfl (Nat.le_of_ble_eq_true rfl) dX12_part_10 (fun r M' hp => ?_)
  obtain ⟨rfl, a4, rfl, hw⟩ := hp
  try dsimp only at hw
  refine r_istore hC dX12_part_13 (by decide) ?_
  refine r_iload hC dX12_part_15 rfl ?_
  refine r_aload_n hC dX12_part_17 rfl rfl ?_
  refine r_getR hC 4 rfl (by decide) kf12_22 rfl rfl dX12_part_18 ?_
  refine r_bipush hC dX12_part_21 (by decide) ?_
  refine r_iload_n hC dX12_part_23 rfl rfl ?_
  refine r_imul hC dX12_part_24 ?_
  refine r_iload_n hC dX12_part_25 rfl rfl ?_
  refine r_iadd hC dX12_part_26 ?_
  obtain ⟨o5, hw⟩ := hw
  refine r_iald hC rfl o5.1 o5.2 (by decide) (by decide) dX12_part_27 (fun b7 b7' => ?_)
  replace hw := hw _ rfl b7 b7'
  refine r_iadd hC dX12_part_28 ?_
  refine r_istore hC dX12_part_29 (by decide) ?_
  refine r_iload hC dX12_part_31 rfl ?_
  refine r_iconst hC dX12_part_33 ?_
  refine r_aload_n hC dX12_part_34 rfl rfl ?_
  refine r_getR hC 41 rfl (by decide) kf12_104 rfl rfl dX12_part_35 ?_
  refine r_iload_n hC dX12_part_38 rfl rfl ?_
  obtain ⟨o8, hw⟩ := hw
  refine r_iald hC rfl o8.1 o8.2 (by decide) (by decide) dX12_part_39 (fun b10 b10' => ?_)
  replace hw := hw _ rfl b10 b10'
  refine r_imul hC dX12_part_40 ?_
  obtain ⟨o11, hw⟩ := hw
  obtain ⟨hwt, hwf⟩ := hw
  refine r_icmp_le hC 55 dX12_part_41 (by decide) o11.1 o11.2 (by omega) (by omega) (fun c13 => ?_) (fun c13 => ?_)
  · have hw := hwt c13
    refine r_iload hC dX12_part_55 rfl ?_
    exact r_subk (s_m_part_j0 hC hQ hw) ⟨rfl, rfl, rfl, rfl, trivial⟩
  · have hw := hwf c13
    refine r_iconst hC dX12_part_44 ?_
    refine r_aload_n hC dX12_part_45 rfl rfl ?_
    refine r_getR hC 41 rfl (by decide) kf12_104 rfl rfl dX12_part_46 ?_
    refine r_iload_n hC dX12_part_49 rfl rfl ?_
    obtain ⟨o14, hw⟩ := hw
    refine r_iald hC rfl o14.1 o14.2 (by decide) (by decide) dX12_part_50 (fun b16 b16' => ?_)
    replace hw := hw _ rfl b16 b16'
    refine r_imul hC dX12_part_51 ?_
    refine r_goto hC 57 dX12_part_52 (by decide) ?_
    exact r_subk (s_m_part_j0 hC hQ hw) ⟨rfl, rfl, rfl, rfl, trivial⟩
set_option maxRecDepth 100000 in
set_option maxHeartbeats 4000000 in
theorem d_m_part {l : Launch} {D : va_G} {aC : Nat → ClassId} {ad : Nat → Nat} {M : Mem} {x1 : Int} {x2 : Int} {Q : Int → Prop} (hw : w_m_part M x1 x2 Q) : Does l D aC ad yX12_part cX12_part 6 (some .int) 1 24 [vR 12, vI x1, vI x2] M (qI M Q) :=
  Does.of (by decide) (Nat.le_of_ble_eq_true rfl) (fun p e R s m args below meth c hC => r_subk (s_m_part hC (fun pc L z d h => r_iret hC d ⟨rfl, ⟨z, rfl, h⟩⟩) hw) ⟨rfl, rfl, rfl, trivial⟩)
theorem dd_12_part : yX12_part.cls ≠ "java/lang/invoke/MethodHandle" ∧ yX12_part.cls ≠ "java/lang/invoke/VarHandle" ∧ (parseMethodDescriptor yX12_part.desc).map (fun d => d.parameters.length) = some 2 := by decide +kernel
/-- SoupSandModel.sinkOf -/
def w_m_sinkOf_B0 (Q : Int → Prop) (x1 : Int) (M : Mem) (X4 : Int → Int → Prop) (x2 : Int) (x3 : Int) : Prop :=
  (0 ≤ x1 ∧ x1 < 8) ∧ (∀ a2 : Int, a2 = M 83 x1 → 0 ≤ a2 → a2 ≤ 5 → ∀ a5 : Int, a5 = M 55 a2 → 0 ≤ a5 → a5 ≤ 6 → (-2147483648 ≤ x3 ∧ x3 ≤ 2147483647) ∧ ((a5 ≤ x3 → Q x2) ∧ (¬ (a5 ≤ x3) → w_m_part M x1 x3 (fun a10 => X4 (x2 + a10) (x3 + 1)))))
set_option maxRecDepth 100000 in
set_option maxHeartbeats 4000000 in
theorem s_m_sinkOf_B0 {Q : Int → Prop} {x1 : Int} {M : Mem} {X4 : Int → Int → Prop} {x2 : Int} {x3 : Int} (hC : rC p R s m args meth c cells slots D aC ad 4 cX12_sinkOf RX12 2 49 (some .int)) (hQ : ∀ (pc : Nat) (L : List (Nat × RV)) (z : Int), decode cX12_sinkOf pc = .ok (.ireturn, 1) → Q z → rG p l e R s m args below meth c cells slots Qs D aC ad 4 pc L [vI z] M) (hX4 : ∀ (x2 : Int) (x3 : Int), X4 x2 x3 → rG p l e R s m args below meth c cells slots Qs D aC ad 4 4 [(0, vR 12), (1, vI x1), (2, vI x2), (3, vI x3)] [] M) (hw : w_m_sinkOf_B0 Q x1 M X4 x2 x3) : rG p l e R s m args below meth c cells slots Qs D aC ad 4 4 [(0, vR 12), (1, vI x1), (2, vI x2), (3, vI x3)] [] M := by
  unfold w_m_sinkOf_B0 at hw
  refine r_iload_n hC dX12_sinkOf_4 rfl rfl ?_
  refine r_aload_n hC dX12_sinkOf_5 rfl rfl ?_
  refine r_getR hC 2 rfl (by decide) kf12_16 rfl rfl dX12_sinkOf_6 ?_
  refine r_aload_n hC dX12_sinkOf_9 rfl rfl ?_
  refine r_getR hC 40 rfl (by decide) kf12_101 rfl rfl dX12_sinkOf_10 ?_
  refine r_iload_n hC dX12_sinkOf_13 rfl rfl ?_
  obtain ⟨o1, hw⟩ := hw
  refine r_iald hC rfl o1.1 o1.2 (by decide) (by decide) dX12_sinkOf_14 (fun b3 b3' => ?_)
  replace hw := hw _ rfl b3 b3'
  refine r_iald hC rfl (by omega) (by omega) (by decide) (by decide) dX12_sinkOf_15 (fun b6 b6' => ?_)
  replace hw := hw _ rfl b6 b6'
  obtain ⟨o7, hw⟩ := hw
  obtain ⟨hwt, hwf⟩ := hw
  refine r_icmp_ge hC 34 dX12_sinkOf_16 (by decide) o7.1 o7.2 (by omega) (by omega) (fun c9 => ?_) (fun c9 => ?_)
  · have hw := hwt c9
    refine r_iload_n hC dX12_sinkOf_34 rfl rfl ?_
    exact hQ _ _ _ dX12_sinkOf_35 hw
  · have hw := hwf c9
    refine r_iload_n hC dX12_sinkOf_19 rfl rfl ?_
    refine r_aload_n hC dX12_sinkOf_20 rfl rfl ?_
    refine r_iload_n hC dX12_sinkOf_21 rfl rfl ?_
    refine r_iload_n hC dX12_sinkOf_22 rfl rfl ?_
    refine r_callV hC (d_m_part hw) rfl kC12_part km12_322 kI12_part kS12_part kN12 dd_12_part ⟨Nat.le_of_ble_eq_true rfl, Nat.le_of_ble_eq_true rfl⟩ rfl (Nat.le_of_ble_eq_true rfl) dX12_sinkOf_23 (fun r M' hp => ?_)
    obtain ⟨rfl, a10, rfl, hw⟩ := hp
    try dsimp only at hw
    refine r_iadd hC dX12_sinkOf_26 ?_
    refine r_istore_n hC dX12_sinkOf_27 rfl (by decide) ?_
    refine r_iinc hC dX12_sinkOf_28 rfl (by decide) ?_
    refine r_goto hC 4 dX12_sinkOf_31 (by decide) ?_
    exact r_subk (hX4 _ _ hw) ⟨rfl, rfl, rfl, rfl, trivial⟩
def w_m_sinkOf_L0 (Q : Int → Prop) (x1 : Int) (M : Mem) (x2 : Int) (x3 : Int) : Prop :=
  ∀ X : Int → Int → Prop, (∀ (x2 : Int) (x3 : Int), w_m_sinkOf_B0 Q x1 M X x2 x3 → X x2 x3) → X x2 x3
set_option maxRecDepth 100000 in
set_option maxHeartbeats 4000000 in
theorem s_m_sinkOf_L0 {Q : Int → Prop} {x1 : Int} {M : Mem} {x2 : Int} {x3 : Int} (hC : rC p R s m args meth c cells slots D aC ad 4 cX12_sinkOf RX12 2 49 (some .int)) (hQ : ∀ (pc : Nat) (L : List (Nat × RV)) (z : Int), decode cX12_sinkOf pc = .ok (.ireturn, 1) → Q z → rG p l e R s m args below meth c cells slots Qs D aC ad 4 pc L [vI z] M) (hw : w_m_sinkOf_L0 Q x1 M x2 x3) : rG p l e R s m args below meth c cells slots Qs D aC ad 4 4 [(0, vR 12), (1, vI x1), (2, vI x2), (3, vI x3)] [] M := by
  unfold w_m_sinkOf_L0 at hw
  exact hw (fun x2 x3 => rG p l e R s m args below meth c cells slots Qs D aC ad 4 4 [(0, vR 12), (1, vI x1), (2, vI x2), (3, vI x3)] [] M) (fun x2 x3 hb => s_m_sinkOf_B0 hC hQ (fun _ _ h => h) hb)
def w_m_sinkOf (M : Mem) (x1 : Int) (Q : Int → Prop) : Prop :=
  w_m_sinkOf_L0 Q x1 M 0 0
set_option maxRecDepth 100000 in
set_option maxHeartbeats 4000000 in
theorem s_m_sinkOf {M : Mem} {x1 : Int} {Q : Int → Prop} (hC : rC p R s m args meth c cells slots D aC ad 4 cX12_sinkOf RX12 2 49 (some .int)) (hQ : ∀ (pc : Nat) (L : List (Nat × RV)) (z : Int), decode cX12_sinkOf pc = .ok (.ireturn, 1) → Q z → rG p l e R s m args below meth c cells slots Qs D aC ad 4 pc L [vI z] M) (hw : w_m_sinkOf M x1 Q) : rG p l e R s m args below meth c cells slots Qs D aC ad 4 0 [(0, vR 12), (1, vI x1)] [] M := by
  unfold w_m_sinkOf at hw
  refine r_iconst hC dX12_sinkOf_0 ?_
  refine r_istore_n hC dX12_sinkOf_1 rfl (by decide) ?_
  refine r_iconst hC dX12_sinkOf_2 ?_
  refine r_istore_n hC dX12_sinkOf_3 rfl (by decide) ?_
  exact r_subk (s_m_sinkOf_L0 hC hQ hw) ⟨rfl, rfl, rfl, rfl, trivial⟩
set_option maxRecDepth 100000 in
set_option maxHeartbeats 4000000 in
theorem d_m_sinkOf {l : Launch} {D : va_G} {aC : Nat → ClassId} {ad : Nat → Nat} {M : Mem} {x1 : Int} {Q : Int → Prop} (hw : w_m_sinkOf M x1 Q) : Does l D aC ad yX12_sinkOf cX12_sinkOf 4 (some .int) 2 49 [vR 12, vI x1] M (qI M Q) :=
  Does.of (by decide) (Nat.le_of_ble_eq_true rfl) (fun p e R s m args below meth c hC => r_subk (s_m_sinkOf hC (fun pc L z d h => r_iret hC d ⟨rfl, ⟨z, rfl, h⟩⟩) hw) ⟨rfl, rfl, trivial⟩)
end
