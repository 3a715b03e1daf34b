section
variable {p : Program} {l : Launch} {e : Env} {R : Room} {s : State} {m : MethodId} {args : Array Value} {below : List Frame} {meth : Method} {c : Code} {cells slots : Nat} {Qs : State → Prop} {D : va_G} {aC : Nat → ClassId} {ad : Nat → Nat}
/-- SoupSandModel.first -/
def w_m_first_B0 (Q : Mem → Prop) (X2 : Int → Mem → Prop) (x1 : Int) (M : Mem) : Prop :=
  (-2147483648 ≤ x1 ∧ x1 ≤ 2147483647) ∧ ((4 ≤ x1 → ∀ M5 : Mem, M5 = mset M 65 20 18 → ∀ M7 : Mem, M7 = mset M5 65 21 9 → ∀ M9 : Mem, M9 = mset M7 65 22 40 → ∀ M11 : Mem, M11 = mset M9 65 23 5 → ∀ M13 : Mem, M13 = mset M11 65 24 0 → Q M13) ∧ (¬ (4 ≤ x1) → (0 ≤ 5 * x1 ∧ 5 * x1 < 25) ∧ (∀ M15 : Mem, M15 = mset M 65 (5 * x1) 20 → (0 ≤ (5 * x1) + 1 ∧ (5 * x1) + 1 < 25) ∧ (∀ M17 : Mem, M17 = mset M15 65 ((5 * x1) + 1) 50 → (0 ≤ (5 * x1) + 2 ∧ (5 * x1) + 2 < 25) ∧ (∀ M19 : Mem, M19 = mset M17 65 ((5 * x1) + 2) 90 → (0 ≤ (5 * x1) + 3 ∧ (5 * x1) + 3 < 25) ∧ (∀ M21 : Mem, M21 = mset M19 65 ((5 * x1) + 3) 10 → (0 ≤ (5 * x1) + 4 ∧ (5 * x1) + 4 < 25) ∧ (∀ M23 : Mem, M23 = mset M21 65 ((5 * x1) + 4) 60 → X2 (x1 + 1) M23)))))))
set_option maxRecDepth 100000 in
set_option maxHeartbeats 4000000 in
theorem s_m_first_B0 {Q : Mem → Prop} {X2 : Int → Mem → Prop} {x1 : Int} {M : Mem} (hC : rC p R s m args meth c cells slots D aC ad 2 cX12_first RX12 0 0 none) (hQ : ∀ (pc : Nat) (L : List (Nat × RV)) (M : Mem), decode cX12_first pc = .ok (.return_, 1) → Q M → rG p l e R s m args below meth c cells slots Qs D aC ad 2 pc L [] M) (hX2 : ∀ (x1 : Int) (M : Mem), X2 x1 M → rG p l e R s m args below meth c cells slots Qs D aC ad 2 2 [(0, vR 12), (1, vI x1)] [] M) (hw : w_m_first_B0 Q X2 x1 M) : rG p l e R s m args below meth c cells slots Qs D aC ad 2 2 [(0, vR 12), (1, vI x1)] [] M := by
  unfold w_m_first_B0 at hw
  refine r_iload_n hC dX12_first_2 rfl rfl ?_
  refine r_iconst hC dX12_first_3 ?_
  obtain ⟨o1, hw⟩ := hw
  obtain ⟨hwt, hwf⟩ := hw
  refine r_icmp_ge hC 71 dX12_first_4 (by decide) o1.1 o1.2 (by decide) (by decide) (fun c3 => ?_) (fun c3 => ?_)
  · have hw := hwt c3
    refine r_aload_n hC dX12_first_71 rfl rfl ?_
    refine r_getR hC 13 rfl (by decide) kf12_46 rfl rfl dX12_first_72 ?_
    refine r_bipush hC dX12_first_75 (by decide) ?_
    refine r_bipush hC dX12_first_77 (by decide) ?_
    refine r_iast hC rfl (by decide) (by decide) (by decide) (by decide) (by decide) (by decide) dX12_first_79 ?_
    replace hw := hw _ rfl
    refine r_aload_n hC dX12_first_80 rfl rfl ?_
    refine r_getR hC 13 rfl (by decide) kf12_46 rfl rfl dX12_first_81 ?_
    refine r_bipush hC dX12_first_84 (by decide) ?_
    refine r_bipush hC dX12_first_86 (by decide) ?_
    refine r_iast hC rfl (by decide) (by decide) (by decide) (by decide) (by decide) (by decide) dX12_first_88 ?_
    replace hw := hw _ rfl
    refine r_aload_n hC dX12_first_89 rfl rfl ?_
    refine r_getR hC 13 rfl (by decide) kf12_46 rfl rfl dX12_first_90 ?_
    refine r_bipush hC dX12_first_93 (by decide) ?_
    refine r_bipush hC dX12_first_95 (by decide) ?_
    refine r_iast hC rfl (by decide) (by decide) (by decide) (by decide) (by decide) (by decide) dX12_first_97 ?_
    replace hw := hw _ rfl
    refine r_aload_n hC dX12_first_98 rfl rfl ?_
    refine r_getR hC 13 rfl (by decide) kf12_46 rfl rfl dX12_first_99 ?_
    refine r_bipush hC dX12_first_102 (by decide) ?_
    refine r_iconst hC dX12_first_104 ?_
    refine r_iast hC rfl (by decide) (by decide) (by decide) (by decide) (by decide) (by decide) dX12_first_105 ?_
    replace hw := hw _ rfl
    refine r_aload_n hC dX12_first_106 rfl rfl ?_
    refine r_getR hC 13 rfl (by decide) kf12_46 rfl rfl dX12_first_107 ?_
    refine r_bipush hC dX12_first_110 (by decide) ?_
    refine r_iconst hC dX12_first_112 ?_
    refine r_iast hC rfl (by decide) (by decide) (by decide) (by decide) (by decide) (by decide) dX12_first_113 ?_
    replace hw := hw _ rfl
    exact hQ _ _ _ dX12_first_114 hw
  · have hw := hwf c3
    refine r_aload_n hC dX12_first_7 rfl rfl ?_
    refine r_getR hC 13 rfl (by decide) kf12_46 rfl rfl dX12_first_8 ?_
    refine r_iconst hC dX12_first_11 ?_
    refine r_iload_n hC dX12_first_12 rfl rfl ?_
    refine r_imul hC dX12_first_13 ?_
    refine r_bipush hC dX12_first_14 (by decide) ?_
    obtain ⟨o14, hw⟩ := hw
    refine r_iast hC rfl o14.1 o14.2 (by decide) (by decide) (by decide) (by decide) dX12_first_16 ?_
    replace hw := hw _ rfl
    refine r_aload_n hC dX12_first_17 rfl rfl ?_
    refine r_getR hC 13 rfl (by decide) kf12_46 rfl rfl dX12_first_18 ?_
    refine r_iconst hC dX12_first_21 ?_
    refine r_iload_n hC dX12_first_22 rfl rfl ?_
    refine r_imul hC dX12_first_23 ?_
    refine r_iconst hC dX12_first_24 ?_
    refine r_iadd hC dX12_first_25 ?_
    refine r_bipush hC dX12_first_26 (by decide) ?_
    obtain ⟨o16, hw⟩ := hw
    refine r_iast hC rfl o16.1 o16.2 (by decide) (by decide) (by decide) (by decide) dX12_first_28 ?_
    replace hw := hw _ rfl
    refine r_aload_n hC dX12_first_29 rfl rfl ?_
    refine r_getR hC 13 rfl (by decide) kf12_46 rfl rfl dX12_first_30 ?_
    refine r_iconst hC dX12_first_33 ?_
    refine r_iload_n hC dX12_first_34 rfl rfl ?_
    refine r_imul hC dX12_first_35 ?_
    refine r_iconst hC dX12_first_36 ?_
    refine r_iadd hC dX12_first_37 ?_
    refine r_bipush hC dX12_first_38 (by decide) ?_
    obtain ⟨o18, hw⟩ := hw
    refine r_iast hC rfl o18.1 o18.2 (by decide) (by decide) (by decide) (by decide) dX12_first_40 ?_
    replace hw := hw _ rfl
    refine r_aload_n hC dX12_first_41 rfl rfl ?_
    refine r_getR hC 13 rfl (by decide) kf12_46 rfl rfl dX12_first_42 ?_
    refine r_iconst hC dX12_first_45 ?_
    refine r_iload_n hC dX12_first_46 rfl rfl ?_
    refine r_imul hC dX12_first_47 ?_
    refine r_iconst hC dX12_first_48 ?_
    refine r_iadd hC dX12_first_49 ?_
    refine r_bipush hC dX12_first_50 (by decide) ?_
    obtain ⟨o20, hw⟩ := hw
    refine r_iast hC rfl o20.1 o20.2 (by decide) (by decide) (by decide) (by decide) dX12_first_52 ?_
    replace hw := hw _ rfl
    refine r_aload_n hC dX12_first_53 rfl rfl ?_
    refine r_getR hC 13 rfl (by decide) kf12_46 rfl rfl dX12_first_54 ?_
    refine r_iconst hC dX12_first_57 ?_
    refine r_iload_n hC dX12_first_58 rfl rfl ?_
    refine r_imul hC dX12_first_59 ?_
    refine r_iconst hC dX12_first_60 ?_
    refine r_iadd hC dX12_first_61 ?_
    refine r_bipush hC dX12_first_62 (by decide) ?_
    obtain ⟨o22, hw⟩ := hw
    refine r_iast hC rfl o22.1 o22.2 (by decide) (by decide) (by decide) (by decide) dX12_first_64 ?_
    replace hw := hw _ rfl
    refine r_iinc hC dX12_first_65 rfl (by decide) ?_
    refine r_goto hC 2 dX12_first_68 (by decide) ?_
    exact r_subk (hX2 _ _ hw) ⟨rfl, rfl, trivial⟩
def w_m_first_L0 (Q : Mem → Prop) (x1 : Int) (M : Mem) : Prop :=
  ∀ X : Int → Mem → Prop, (∀ (x1 : Int) (M : Mem), w_m_first_B0 Q X x1 M → X x1 M) → X x1 M
set_option maxRecDepth 100000 in
set_option maxHeartbeats 4000000 in
theorem s_m_first_L0 {Q : Mem → Prop} {x1 : Int} {M : Mem} (hC : rC p R s m args meth c cells slots D aC ad 2 cX12_first RX12 0 0 none) (hQ : ∀ (pc : Nat) (L : List (Nat × RV)) (M : Mem), decode cX12_first pc = .ok (.return_, 1) → Q M → rG p l e R s m args below meth c cells slots Qs D aC ad 2 pc L [] M) (hw : w_m_first_L0 Q x1 M) : rG p l e R s m args below meth c cells slots Qs D aC ad 2 2 [(0, vR 12), (1, vI x1)] [] M := by
  unfold w_m_first_L0 at hw
  exact hw (fun x1 M => rG p l e R s m args below meth c cells slots Qs D aC ad 2 2 [(0, vR 12), (1, vI x1)] [] M) (fun x1 M hb => s_m_first_B0 hC hQ (fun _ _ h => h) hb)
def w_m_first (M : Mem) (Q : Mem → Prop) : Prop :=
  w_m_first_L0 Q 0 M
set_option maxRecDepth 100000 in
set_option maxHeartbeats 4000000 in
theorem s_m_first {M : Mem} {Q : Mem → Prop} (hC : rC p R s m args meth c cells slots D aC ad 2 cX12_first RX12 0 0 none) (hQ : ∀ (pc : Nat) (L : List (Nat × RV)) (M : Mem), decode cX12_first pc = .ok (.return_, 1) → Q M → rG p l e R s m args below meth c cells slots Qs D aC ad 2 pc L [] M) (hw : w_m_first M Q) : rG p l e R s m args below meth c cells slots Qs D aC ad 2 0 [(0, vR 12)] [] M := by
  unfold w_m_first at hw
  refine r_iconst hC dX12_first_0 ?_
  refine r_istore_n hC dX12_first_1 rfl (by decide) ?_
  exact r_subk (s_m_first_L0 hC hQ hw) ⟨rfl, rfl, trivial⟩
set_option maxRecDepth 100000 in
set_option maxHeartbeats 4000000 in
theorem d_m_first {l : Launch} {D : va_G} {aC : Nat → ClassId} {ad : Nat → Nat} {M : Mem} {Q : Mem → Prop} (hw : w_m_first M Q) : Does l D aC ad yX12_first cX12_first 2 none 0 0 [vR 12] M (pV Q) :=
  Does.of (by decide) (Nat.le_of_ble_eq_true rfl) (fun p e R s m args below meth c hC => r_subk (s_m_first hC (fun pc L M d h => r_vret hC d ⟨rfl, h⟩) hw) ⟨rfl, trivial⟩)
/-- SoupSandModel.change -/
def w_m_change_B0 (Q : Mem → Prop) (X2 : Int → Mem → Prop) (x1 : Int) (M : Mem) : Prop :=
  (-2147483648 ≤ x1 ∧ x1 ≤ 2147483647) ∧ ((6 ≤ x1 → Q M) ∧ (¬ (6 ≤ x1) → (0 ≤ x1 ∧ x1 < 6) ∧ (∀ M5 : Mem, M5 = mset M 66 x1 0 → X2 (x1 + 1) M5)))
set_option maxRecDepth 100000 in
set_option maxHeartbeats 4000000 in
theorem s_m_change_B0 {Q : Mem → Prop} {X2 : Int → Mem → Prop} {x1 : Int} {M : Mem} (hC : rC p R s m args meth c cells slots D aC ad 2 cX12_change RX12 0 0 none) (hQ : ∀ (pc : Nat) (L : List (Nat × RV)) (M : Mem), decode cX12_change pc = .ok (.return_, 1) → Q M → rG p l e R s m args below meth c cells slots Qs D aC ad 2 pc L [] M) (hX2 : ∀ (x1 : Int) (M : Mem), X2 x1 M → rG p l e R s m args below meth c cells slots Qs D aC ad 2 2 [(0, vR 12), (1, vI x1)] [] M) (hw : w_m_change_B0 Q X2 x1 M) : rG p l e R s m args below meth c cells slots Qs D aC ad 2 2 [(0, vR 12), (1, vI x1)] [] M := by
  unfold w_m_change_B0 at hw
  refine r_iload_n hC dX12_change_2 rfl rfl ?_
  refine r_bipush hC dX12_change_3 (by decide) ?_
  obtain ⟨o1, hw⟩ := hw
  obtain ⟨hwt, hwf⟩ := hw
  refine r_icmp_ge hC 21 dX12_change_5 (by decide) o1.1 o1.2 (by decide) (by decide) (fun c3 => ?_) (fun c3 => ?_)
  · have hw := hwt c3
    exact hQ _ _ _ dX12_change_21 hw
  · have hw := hwf c3
    refine r_aload_n hC dX12_change_8 rfl rfl ?_
    refine r_getR hC 14 rfl (by decide) kf12_49 rfl rfl dX12_change_9 ?_
    refine r_iload_n hC dX12_change_12 rfl rfl ?_
    refine r_iconst hC dX12_change_13 ?_
    obtain ⟨o4, hw⟩ := hw
    refine r_zast hC rfl o4.1 o4.2 (by decide) (by decide) (by decide) (by decide) (vnar_z (by decide) (by decide)) dX12_change_14 ?_
    replace hw := hw _ rfl
    refine r_iinc hC dX12_change_15 rfl (by decide) ?_
    refine r_goto hC 2 dX12_change_18 (by decide) ?_
    exact r_subk (hX2 _ _ hw) ⟨rfl, rfl, trivial⟩
def w_m_change_L0 (Q : Mem → Prop) (x1 : Int) (M : Mem) : Prop :=
  ∀ X : Int → Mem → Prop, (∀ (x1 : Int) (M : Mem), w_m_change_B0 Q X x1 M → X x1 M) → X x1 M
set_option maxRecDepth 100000 in
set_option maxHeartbeats 4000000 in
theorem s_m_change_L0 {Q : Mem → Prop} {x1 : Int} {M : Mem} (hC : rC p R s m args meth c cells slots D aC ad 2 cX12_change RX12 0 0 none) (hQ : ∀ (pc : Nat) (L : List (Nat × RV)) (M : Mem), decode cX12_change pc = .ok (.return_, 1) → Q M → rG p l e R s m args below meth c cells slots Qs D aC ad 2 pc L [] M) (hw : w_m_change_L0 Q x1 M) : rG p l e R s m args below meth c cells slots Qs D aC ad 2 2 [(0, vR 12), (1, vI x1)] [] M := by
  unfold w_m_change_L0 at hw
  exact hw (fun x1 M => rG p l e R s m args below meth c cells slots Qs D aC ad 2 2 [(0, vR 12), (1, vI x1)] [] M) (fun x1 M hb => s_m_change_B0 hC hQ (fun _ _ h => h) hb)
def w_m_change (M : Mem) (Q : Mem → Prop) : Prop :=
  w_m_change_L0 Q 0 M
set_option maxRecDepth 100000 in
set_option maxHeartbeats 4000000 in
theorem s_m_change {M : Mem} {Q : Mem → Prop} (hC : rC p R s m args meth c cells slots D aC ad 2 cX12_change RX12 0 0 none) (hQ : ∀ (pc : Nat) (L : List (Nat × RV)) (M : Mem), decode cX12_change pc = .ok (.return_, 1) → Q M → rG p l e R s m args below meth c cells slots Qs D aC ad 2 pc L [] M) (hw : w_m_change M Q) : rG p l e R s m args below meth c cells slots Qs D aC ad 2 0 [(0, vR 12)] [] M := by
  unfold w_m_change at hw
  refine r_iconst hC dX12_change_0 ?_
  refine r_istore_n hC dX12_change_1 rfl (by decide) ?_
  exact r_subk (s_m_change_L0 hC hQ hw) ⟨rfl, rfl, trivial⟩
set_option maxRecDepth 100000 in
set_option maxHeartbeats 4000000 in
theorem d_m_change {l : Launch} {D : va_G} {aC : Nat → ClassId} {ad : Nat → Nat} {M : Mem} {Q : Mem → Prop} (hw : w_m_change M Q) : Does l D aC ad yX12_change cX12_change 2 none 0 0 [vR 12] M (pV Q) :=
  Does.of (by decide) (Nat.le_of_ble_eq_true rfl) (fun p e R s m args below meth c hC => r_subk (s_m_change hC (fun pc L M d h => r_vret hC d ⟨rfl, h⟩) hw) ⟨rfl, trivial⟩)
theorem dd_12_change : yX12_change.cls ≠ "java/lang/invoke/MethodHandle" ∧ yX12_change.cls ≠ "java/lang/invoke/VarHandle" ∧ (parseMethodDescriptor yX12_change.desc).map (fun d => d.parameters.length) = some 0 := by decide +kernel
/-- SoupSandModel.keep -/
def w_m_keep_B0 (Q : Mem → Prop) (X2 : Int → Mem → Prop) (x1 : Int) (M : Mem) : Prop :=
  (-2147483648 ≤ x1 ∧ x1 ≤ 2147483647) ∧ ((25 ≤ x1 → w_m_change M (fun M5 => Q M5)) ∧ (¬ (25 ≤ x1) → (0 ≤ x1 ∧ x1 < 25) ∧ (∀ a7 : Int, a7 = M 65 x1 → 0 ≤ a7 → a7 ≤ 999 → (0 ≤ x1 ∧ x1 < 25) ∧ (∀ M10 : Mem, M10 = mset M 64 x1 a7 → X2 (x1 + 1) M10))))
set_option maxRecDepth 100000 in
set_option maxHeartbeats 4000000 in
theorem s_m_keep_B0 {Q : Mem → Prop} {X2 : Int → Mem → Prop} {x1 : Int} {M : Mem} (hC : rC p R s m args meth c cells slots D aC ad 2 cX12_keep RX12 1 21 none) (hQ : ∀ (pc : Nat) (L : List (Nat × RV)) (M : Mem), decode cX12_keep pc = .ok (.return_, 1) → Q M → rG p l e R s m args below meth c cells slots Qs D aC ad 2 pc L [] M) (hX2 : ∀ (x1 : Int) (M : Mem), X2 x1 M → rG p l e R s m args below meth c cells slots Qs D aC ad 2 2 [(0, vR 12), (1, vI x1)] [] M) (hw : w_m_keep_B0 Q X2 x1 M) : rG p l e R s m args below meth c cells slots Qs D aC ad 2 2 [(0, vR 12), (1, vI x1)] [] M := by
  unfold w_m_keep_B0 at hw
  refine r_iload_n hC dX12_keep_2 rfl rfl ?_
  refine r_bipush hC dX12_keep_3 (by decide) ?_
  obtain ⟨o1, hw⟩ := hw
  obtain ⟨hwt, hwf⟩ := hw
  refine r_icmp_ge hC 26 dX12_keep_5 (by decide) o1.1 o1.2 (by decide) (by decide) (fun c3 => ?_) (fun c3 => ?_)
  · have hw := hwt c3
    refine r_aload_n hC dX12_keep_26 rfl rfl ?_
    refine r_callV hC (d_m_change hw) rfl kC12_change km12_160 kI12_change kS12_change kN12 dd_12_change ⟨Nat.le_of_ble_eq_true rfl, Nat.le_of_ble_eq_true rfl⟩ rfl (Nat.le_of_ble_eq_true rfl) dX12_keep_27 (fun r M' hp => ?_)
    obtain ⟨rfl, hw⟩ := hp
    try dsimp only at hw
    exact hQ _ _ _ dX12_keep_30 hw
  · have hw := hwf c3
    refine r_aload_n hC dX12_keep_8 rfl rfl ?_
    refine r_getR hC 12 rfl (by decide) kf12_43 rfl rfl dX12_keep_9 ?_
    refine r_iload_n hC dX12_keep_12 rfl rfl ?_
    refine r_aload_n hC dX12_keep_13 rfl rfl ?_
    refine r_getR hC 13 rfl (by decide) kf12_46 rfl rfl dX12_keep_14 ?_
    refine r_iload_n hC dX12_keep_17 rfl rfl ?_
    obtain ⟨o6, hw⟩ := hw
    refine r_iald hC rfl o6.1 o6.2 (by decide) (by decide) dX12_keep_18 (fun b8 b8' => ?_)
    replace hw := hw _ rfl b8 b8'
    obtain ⟨o9, hw⟩ := hw
    refine r_iast hC rfl o9.1 o9.2 (by decide) (by decide) (by omega) (by omega) dX12_keep_19 ?_
    replace hw := hw _ rfl
    refine r_iinc hC dX12_keep_20 rfl (by decide) ?_
    refine r_goto hC 2 dX12_keep_23 (by decide) ?_
    exact r_subk (hX2 _ _ hw) ⟨rfl, rfl, trivial⟩
def w_m_keep_L0 (Q : Mem → Prop) (x1 : Int) (M : Mem) : Prop :=
  ∀ X : Int → Mem → Prop, (∀ (x1 : Int) (M : Mem), w_m_keep_B0 Q X x1 M → X x1 M) → X x1 M
set_option maxRecDepth 100000 in
set_option maxHeartbeats 4000000 in
theorem s_m_keep_L0 {Q : Mem → Prop} {x1 : Int} {M : Mem} (hC : rC p R s m args meth c cells slots D aC ad 2 cX12_keep RX12 1 21 none) (hQ : ∀ (pc : Nat) (L : List (Nat × RV)) (M : Mem), decode cX12_keep pc = .ok (.return_, 1) → Q M → rG p l e R s m args below meth c cells slots Qs D aC ad 2 pc L [] M) (hw : w_m_keep_L0 Q x1 M) : rG p l e R s m args below meth c cells slots Qs D aC ad 2 2 [(0, vR 12), (1, vI x1)] [] M := by
  unfold w_m_keep_L0 at hw
  exact hw (fun x1 M => rG p l e R s m args below meth c cells slots Qs D aC ad 2 2 [(0, vR 12), (1, vI x1)] [] M) (fun x1 M hb => s_m_keep_B0 hC hQ (fun _ _ h => h) hb)
def w_m_keep (M : Mem) (Q : Mem → Prop) : Prop :=
  w_m_keep_L0 Q 0 M
set_option maxRecDepth 100000 in
set_option maxHeartbeats 4000000 in
theorem s_m_keep {M : Mem} {Q : Mem → Prop} (hC : rC p R s m args meth c cells slots D aC ad 2 cX12_keep RX12 1 21 none) (hQ : ∀ (pc : Nat) (L : List (Nat × RV)) (M : Mem), decode cX12_keep pc = .ok (.return_, 1) → Q M → rG p l e R s m args below meth c cells slots Qs D aC ad 2 pc L [] M) (hw : w_m_keep M Q) : rG p l e R s m args below meth c cells slots Qs D aC ad 2 0 [(0, vR 12)] [] M := by
  unfold w_m_keep at hw
  refine r_iconst hC dX12_keep_0 ?_
  refine r_istore_n hC dX12_keep_1 rfl (by decide) ?_
  exact r_subk (s_m_keep_L0 hC hQ hw) ⟨rfl, rfl, trivial⟩
set_option maxRecDepth 100000 in
set_option maxHeartbeats 4000000 in
theorem d_m_keep {l : Launch} {D : va_G} {aC : Nat → ClassId} {ad : Nat → Nat} {M : Mem} {Q : Mem → Prop} (hw : w_m_keep M Q) : Does l D aC ad yX12_keep cX12_keep 2 none 1 21 [vR 12] M (pV Q) :=
  Does.of (by decide) (Nat.le_of_ble_eq_true rfl) (fun p e R s m args below meth c hC => r_subk (s_m_keep hC (fun pc L M d h => r_vret hC d ⟨rfl, h⟩) hw) ⟨rfl, trivial⟩)
/-- SoupSandModel.in -/
def w_m_in (M : Mem) (x0 : Int) (x2 : Int) (x4 : Int) (Q : Int → Prop) : Prop :=
  (-9223372036854775808 ≤ x0 ∧ x0 ≤ 9223372036854775807) ∧ ((-9223372036854775808 ≤ x2 ∧ x2 ≤ 9223372036854775807) ∧ ((x0 < x2 → Q 0) ∧ (¬ (x0 < x2) → (-9223372036854775808 ≤ x0 ∧ x0 ≤ 9223372036854775807) ∧ ((-9223372036854775808 ≤ x4 ∧ x4 ≤ 9223372036854775807) ∧ ((x4 < x0 → Q 0) ∧ (¬ (x4 < x0) → Q 1))))))
set_option maxRecDepth 100000 in
set_option maxHeartbeats 4000000 in
theorem s_m_in {M : Mem} {x0 : Int} {x2 : Int} {x4 : Int} {Q : Int → Prop} (hC : rC p R s m args meth c cells slots D aC ad 6 cX12_in RX12 0 0 (some .boolean)) (hQ : ∀ (pc : Nat) (L : List (Nat × RV)) (z : Int), decode cX12_in pc = .ok (.ireturn, 1) → 0 ≤ z → z ≤ 1 → Q z → rG p l e R s m args below meth c cells slots Qs D aC ad 6 pc L [vI z] M) (hw : w_m_in M x0 x2 x4 Q) : rG p l e R s m args below meth c cells slots Qs D aC ad 6 0 [(0, vJ x0), (2, vJ x2), (4, vJ x4)] [] M := by
  unfold w_m_in at hw
  refine r_lload_n hC dX12_in_0 rfl rfl ?_
  refine r_lload_n hC dX12_in_1 rfl rfl ?_
  obtain ⟨o1, hw⟩ := hw
  obtain ⟨o2, hw⟩ := hw
  obtain ⟨hwt, hwf⟩ := hw
  refine r_lcmp_lt hC 17 dX12_in_2 dX12_in_3 (by decide) o1.1 o1.2 o2.1 o2.2 (fun c3 => ?_) (fun c3 => ?_)
  · have hw := hwt c3
    refine r_iconst hC dX12_in_17 ?_
    exact hQ _ _ _ dX12_in_18 (by decide) (by decide) hw
  · have hw := hwf c3
    refine r_lload_n hC dX12_in_6 rfl rfl ?_
    refine r_lload hC dX12_in_7 rfl ?_
    obtain ⟨o5, hw⟩ := hw
    obtain ⟨o6, hw⟩ := hw
    obtain ⟨hwt, hwf⟩ := hw
    refine r_lcmp_gt hC 17 dX12_in_9 dX12_in_10 (by decide) o5.1 o5.2 o6.1 o6.2 (fun c7 => ?_) (fun c7 => ?_)
    · have hw := hwt c7
      refine r_iconst hC dX12_in_17 ?_
      exact hQ _ _ _ dX12_in_18 (by decide) (by decide) hw
    · have hw := hwf c7
      refine r_iconst hC dX12_in_13 ?_
      refine r_goto hC 18 dX12_in_14 (by decide) ?_
      exact hQ _ _ _ dX12_in_18 (by decide) (by decide) hw
set_option maxRecDepth 100000 in
set_option maxHeartbeats 4000000 in
theorem d_m_in {l : Launch} {D : va_G} {aC : Nat → ClassId} {ad : Nat → Nat} {M : Mem} {x0 : Int} {x2 : Int} {x4 : Int} {Q : Int → Prop} (hw : w_m_in M x0 x2 x4 Q) : Does l D aC ad yX12_in cX12_in 6 (some .boolean) 0 0 [vJ x0, vJ x2, vJ x4] M (qI M Q) :=
  Does.of (by decide) (Nat.le_of_ble_eq_true rfl) (fun p e R s m args below meth c hC => r_subk (s_m_in hC (fun pc L z d z1 z2 h => r_zret hC d z1 z2 ⟨rfl, ⟨z, rfl, h⟩⟩) hw) ⟨rfl, rfl, rfl, trivial⟩)
theorem dd_12_in : yX12_in.cls ≠ "java/lang/invoke/MethodHandle" ∧ yX12_in.cls ≠ "java/lang/invoke/VarHandle" ∧ (parseMethodDescriptor yX12_in.desc).map (fun d => d.parameters.length) = some 3 := by decide +kernel
/-- SoupSandModel.isColumn -/
def w_m_isColumn (M : Mem) (x0 : Int) (Q : Int → Prop) : Prop :=
  (-2147483648 ≤ x0 ∧ x0 ≤ 2147483647) ∧ (w_m_in M x0 0 5 (fun a2 => (0 ≤ a2 ∧ a2 ≤ 1) ∧ (Q a2)))
set_option maxRecDepth 100000 in
set_option maxHeartbeats 4000000 in
theorem s_m_isColumn {M : Mem} {x0 : Int} {Q : Int → Prop} (hC : rC p R s m args meth c cells slots D aC ad 1 cX12_isColumn RX12 1 25 (some .boolean)) (hQ : ∀ (pc : Nat) (L : List (Nat × RV)) (z : Int), decode cX12_isColumn pc = .ok (.ireturn, 1) → 0 ≤ z → z ≤ 1 → Q z → rG p l e R s m args below meth c cells slots Qs D aC ad 1 pc L [vI z] M) (hw : w_m_isColumn M x0 Q) : rG p l e R s m args below meth c cells slots Qs D aC ad 1 0 [(0, vI x0)] [] M := by
  unfold w_m_isColumn at hw
  refine r_iload_n hC dX12_isColumn_0 rfl rfl ?_
  obtain ⟨o1, hw⟩ := hw
  refine r_i2l hC dX12_isColumn_1 o1.1 o1.2 ?_
  refine r_lconst hC 0 dX12_isColumn_2 (by decide) ?_
  refine r_ldc2 hC (5) dX12_isColumn_3 kL12_163 (by decide) ?_
  refine r_callS hC (d_m_in hw) kC12_in km12_165 kT12_in kN12 dd_12_in ⟨Nat.le_of_ble_eq_true rfl, Nat.le_of_ble_eq_true rfl⟩ rfl (Nat.le_of_ble_eq_true rfl) dX12_isColumn_6 (fun r M' hp => ?_)
  obtain ⟨rfl, a2, rfl, hw⟩ := hp
  try dsimp only at hw
  obtain ⟨o3, hw⟩ := hw
  exact hQ _ _ _ dX12_isColumn_9 o3.1 o3.2 hw
set_option maxRecDepth 100000 in
set_option maxHeartbeats 4000000 in
theorem d_m_isColumn {l : Launch} {D : va_G} {aC : Nat → ClassId} {ad : Nat → Nat} {M : Mem} {x0 : Int} {Q : Int → Prop} (hw : w_m_isColumn M x0 Q) : Does l D aC ad yX12_isColumn cX12_isColumn 1 (some .boolean) 1 25 [vI x0] M (qI M Q) :=
  Does.of (by decide) (Nat.le_of_ble_eq_true rfl) (fun p e R s m args below meth c hC => r_subk (s_m_isColumn hC (fun pc L z d z1 z2 h => r_zret hC d z1 z2 ⟨rfl, ⟨z, rfl, h⟩⟩) hw) ⟨rfl, trivial⟩)
theorem dd_12_isColumn : yX12_isColumn.cls ≠ "java/lang/invoke/MethodHandle" ∧ yX12_isColumn.cls ≠ "java/lang/invoke/VarHandle" ∧ (parseMethodDescriptor yX12_isColumn.desc).map (fun d => d.parameters.length) = some 1 := by decide +kernel
/-- SoupSandModel.column -/
def w_m_column_j1 (Q : Int → Mem → Prop) (x1 : Int) (x2 : Int) (x3 : Int) (s0 : Int) (M : Mem) : Prop :=
  (-2147483648 ≤ x2 ∧ x2 ≤ 2147483647) ∧ ((¬ (x2 = 0) → ((0 ≤ x1 ∧ x1 < 6) ∧ (0 ≤ x3 ∧ x3 ≤ 400)) ∧ (∀ M5 : Mem, M5 = mset M 54 x1 x3 → Q s0 M5)) ∧ (x2 = 0 → ((0 ≤ x1 ∧ x1 < 6) ∧ (0 ≤ x3 ∧ x3 ≤ 999)) ∧ (∀ M7 : Mem, M7 = mset M 53 x1 x3 → Q s0 M7)))
set_option maxRecDepth 100000 in
set_option maxHeartbeats 4000000 in
theorem s_m_column_j1 {Q : Int → Mem → Prop} {x1 : Int} {x2 : Int} {x3 : Int} {s0 : Int} {M : Mem} (hC : rC p R s m args meth c cells slots D aC ad 5 cX12_column RX12 2 45 (some .int)) (hQ : ∀ (pc : Nat) (L : List (Nat × RV)) (z : Int) (M : Mem), decode cX12_column pc = .ok (.ireturn, 1) → Q z M → rG p l e R s m args below meth c cells slots Qs D aC ad 5 pc L [vI z] M) (hw : w_m_column_j1 Q x1 x2 x3 s0 M) : rG p l e R s m args below meth c cells slots Qs D aC ad 5 70 [(0, vR 12), (1, vI x1), (2, vI x2), (3, vI x3)] [vI s0] M := by
  unfold w_m_column_j1 at hw
  refine r_istore hC dX12_column_70 (by decide) ?_
  refine r_iload_n hC dX12_column_72 rfl rfl ?_
  obtain ⟨o1, hw⟩ := hw
  obtain ⟨hwt, hwf⟩ := hw
  refine r_if_ne hC 86 dX12_column_73 (by decide) o1.1 o1.2 (fun c3 => ?_) (fun c3 => ?_)
  · have hw := hwt c3
    refine r_aload_n hC dX12_column_86 rfl rfl ?_
    refine r_getR hC 1 rfl (by decide) kf12_13 rfl rfl dX12_column_87 ?_
    refine r_iload_n hC dX12_column_90 rfl rfl ?_
    refine r_iload_n hC dX12_column_91 rfl rfl ?_
    obtain ⟨o4, hw⟩ := hw
    refine r_iast hC rfl o4.1.1 o4.1.2 (by decide) (by decide) o4.2.1 o4.2.2 dX12_column_92 ?_
    replace hw := hw _ rfl
    refine r_iload hC dX12_column_93 rfl ?_
    exact hQ _ _ _ _ dX12_column_95 hw
  · have hw := hwf c3
    refine r_aload_n hC dX12_column_76 rfl rfl ?_
    refine r_getR hC 0 rfl (by decide) kf12_7 rfl rfl dX12_column_77 ?_
    refine r_iload_n hC dX12_column_80 rfl rfl ?_
    refine r_iload_n hC dX12_column_81 rfl rfl ?_
    obtain ⟨o6, hw⟩ := hw
    refine r_iast hC rfl o6.1.1 o6.1.2 (by decide) (by decide) o6.2.1 o6.2.2 dX12_column_82 ?_
    replace hw := hw _ rfl
    refine r_goto hC 93 dX12_column_83 (by decide) ?_
    refine r_iload hC dX12_column_93 rfl ?_
    exact hQ _ _ _ _ dX12_column_95 hw
def w_m_column_j0 (Q : Int → Mem → Prop) (x1 : Int) (x2 : Int) (x3 : Int) (s0 : Int) (s1 : Int) (s2 : Int) (M : Mem) : Prop :=
  w_m_in M s0 s1 s2 (fun a1 => (-2147483648 ≤ a1 ∧ a1 ≤ 2147483647) ∧ ((¬ (a1 = 0) → w_m_change M (fun M6 => (-2147483648 ≤ x2 ∧ x2 ≤ 2147483647) ∧ ((¬ (x2 = 0) → (0 ≤ x1 ∧ x1 < 6) ∧ (∀ a11 : Int, a11 = M6 54 x1 → 0 ≤ a11 → a11 ≤ 400 → w_m_column_j1 Q x1 x2 x3 a11 M6)) ∧ (x2 = 0 → (0 ≤ x1 ∧ x1 < 6) ∧ (∀ a14 : Int, a14 = M6 53 x1 → 0 ≤ a14 → a14 ≤ 999 → w_m_column_j1 Q x1 x2 x3 a14 M6))))) ∧ (a1 = 0 → Q (-1002) M)))
set_option maxRecDepth 100000 in
set_option maxHeartbeats 4000000 in
theorem s_m_column_j0 {Q : Int → Mem → Prop} {x1 : Int} {x2 : Int} {x3 : Int} {s0 : Int} {s1 : Int} {s2 : Int} {M : Mem} (hC : rC p R s m args meth c cells slots D aC ad 5 cX12_column RX12 2 45 (some .int)) (hQ : ∀ (pc : Nat) (L : List (Nat × RV)) (z : Int) (M : Mem), decode cX12_column pc = .ok (.ireturn, 1) → Q z M → rG p l e R s m args below meth c cells slots Qs D aC ad 5 pc L [vI z] M) (hw : w_m_column_j0 Q x1 x2 x3 s0 s1 s2 M) : rG p l e R s m args below meth c cells slots Qs D aC ad 5 37 [(0, vR 12), (1, vI x1), (2, vI x2), (3, vI x3)] [vJ s2, vJ s1, vJ s0] M := by
  unfold w_m_column_j0 at hw
  refine r_callS hC (d_m_in hw) kC12_in km12_165 kT12_in kN12 dd_12_in ⟨Nat.le_of_ble_eq_true rfl, Nat.le_of_ble_eq_true rfl⟩ rfl (Nat.le_of_ble_eq_true rfl) dX12_column_37 (fun r M' hp => ?_)
  obtain ⟨rfl, a1, rfl, hw⟩ := hp
  try dsimp only at hw
  obtain ⟨o2, hw⟩ := hw
  obtain ⟨hwt, hwf⟩ := hw
  refine r_if_ne hC 47 dX12_column_40 (by decide) o2.1 o2.2 (fun c4 => ?_) (fun c4 => ?_)
  · have hw := hwt c4
    refine r_aload_n hC dX12_column_47 rfl rfl ?_
    refine r_callV hC (d_m_change hw) rfl kC12_change km12_160 kI12_change kS12_change kN12 dd_12_change ⟨Nat.le_of_ble_eq_true rfl, Nat.le_of_ble_eq_true rfl⟩ rfl (Nat.le_of_ble_eq_true rfl) dX12_column_48 (fun r M' hp => ?_)
    obtain ⟨rfl, hw⟩ := hp
    try dsimp only at hw
    refine r_iload_n hC dX12_column_51 rfl rfl ?_
    obtain ⟨o7, hw⟩ := hw
    obtain ⟨hwt, hwf⟩ := hw
    refine r_if_ne hC 64 dX12_column_52 (by decide) o7.1 o7.2 (fun c9 => ?_) (fun c9 => ?_)
    · have hw := hwt c9
      refine r_aload_n hC dX12_column_64 rfl rfl ?_
      refine r_getR hC 1 rfl (by decide) kf12_13 rfl rfl dX12_column_65 ?_
      refine r_iload_n hC dX12_column_68 rfl rfl ?_
      obtain ⟨o10, hw⟩ := hw
      refine r_iald hC rfl o10.1 o10.2 (by decide) (by decide) dX12_column_69 (fun b12 b12' => ?_)
      replace hw := hw _ rfl b12 b12'
      exact r_subk (s_m_column_j1 hC hQ hw) ⟨rfl, rfl, rfl, rfl, trivial⟩
    · have hw := hwf c9
      refine r_aload_n hC dX12_column_55 rfl rfl ?_
      refine r_getR hC 0 rfl (by decide) kf12_7 rfl rfl dX12_column_56 ?_
      refine r_iload_n hC dX12_column_59 rfl rfl ?_
      obtain ⟨o13, hw⟩ := hw
      refine r_iald hC rfl o13.1 o13.2 (by decide) (by decide) dX12_column_60 (fun b15 b15' => ?_)
      replace hw := hw _ rfl b15 b15'
      refine r_goto hC 70 dX12_column_61 (by decide) ?_
      exact r_subk (s_m_column_j1 hC hQ hw) ⟨rfl, rfl, rfl, rfl, trivial⟩
  · have hw := hwf c4
    refine r_sipush hC dX12_column_43 (by decide) ?_
    exact hQ _ _ _ _ dX12_column_46 hw
def w_m_column (M : Mem) (x1 : Int) (x2 : Int) (x3 : Int) (Q : Int → Mem → Prop) : Prop :=
  w_m_isColumn M x1 (fun a1 => (-2147483648 ≤ a1 ∧ a1 ≤ 2147483647) ∧ ((¬ (a1 = 0) → (-2147483648 ≤ x2 ∧ x2 ≤ 2147483647) ∧ (w_m_in M x2 0 1 (fun a6 => (-2147483648 ≤ a6 ∧ a6 ≤ 2147483647) ∧ ((a6 = 0 → Q (-1002) M) ∧ (¬ (a6 = 0) → (-2147483648 ≤ x3 ∧ x3 ≤ 2147483647) ∧ ((-2147483648 ≤ x2 ∧ x2 ≤ 2147483647) ∧ ((¬ (x2 = 0) → w_m_column_j0 Q x1 x2 x3 x3 0 400 M) ∧ (x2 = 0 → w_m_column_j0 Q x1 x2 x3 x3 0 999 M)))))))) ∧ (a1 = 0 → Q (-1001) M)))
set_option maxRecDepth 100000 in
set_option maxHeartbeats 4000000 in
theorem s_m_column {M : Mem} {x1 : Int} {x2 : Int} {x3 : Int} {Q : Int → Mem → Prop} (hC : rC p R s m args meth c cells slots D aC ad 5 cX12_column RX12 2 45 (some .int)) (hQ : ∀ (pc : Nat) (L : List (Nat × RV)) (z : Int) (M : Mem), decode cX12_column pc = .ok (.ireturn, 1) → Q z M → rG p l e R s m args below meth c cells slots Qs D aC ad 5 pc L [vI z] M) (hw : w_m_column M x1 x2 x3 Q) : rG p l e R s m args below meth c cells slots Qs D aC ad 5 0 [(0, vR 12), (1, vI x1), (2, vI x2), (3, vI x3)] [] M := by
  unfold w_m_column at hw
  refine r_iload_n hC dX12_column_0 rfl rfl ?_
  refine r_callS hC (d_m_isColumn hw) kC12_isColumn km12_169 kT12_isColumn kN12 dd_12_isColumn ⟨Nat.le_of_ble_eq_true rfl, Nat.le_of_ble_eq_true rfl⟩ rfl (Nat.le_of_ble_eq_true rfl) dX12_column_1 (fun r M' hp => ?_)
  obtain ⟨rfl, a1, rfl, hw⟩ := hp
  try dsimp only at hw
  obtain ⟨o2, hw⟩ := hw
  obtain ⟨hwt, hwf⟩ := hw
  refine r_if_ne hC 11 dX12_column_4 (by decide) o2.1 o2.2 (fun c4 => ?_) (fun c4 => ?_)
  · have hw := hwt c4
    refine r_iload_n hC dX12_column_11 rfl rfl ?_
    obtain ⟨o5, hw⟩ := hw
    refine r_i2l hC dX12_column_12 o5.1 o5.2 ?_
    refine r_lconst hC 0 dX12_column_13 (by decide) ?_
    refine r_lconst hC 1 dX12_column_14 (by decide) ?_
    refine r_callS hC (d_m_in hw) kC12_in km12_165 kT12_in kN12 dd_12_in ⟨Nat.le_of_ble_eq_true rfl, Nat.le_of_ble_eq_true rfl⟩ rfl (Nat.le_of_ble_eq_true rfl) dX12_column_15 (fun r M' hp => ?_)
    obtain ⟨rfl, a6, rfl, hw⟩ := hp
    try dsimp only at hw
    obtain ⟨o7, hw⟩ := hw
    obtain ⟨hwt, hwf⟩ := hw
    refine r_if_eq hC 43 dX12_column_18 (by decide) o7.1 o7.2 (fun c9 => ?_) (fun c9 => ?_)
    · have hw := hwt c9
      refine r_sipush hC dX12_column_43 (by decide) ?_
      exact hQ _ _ _ _ dX12_column_46 hw
    · have hw := hwf c9
      refine r_iload_n hC dX12_column_21 rfl rfl ?_
      obtain ⟨o10, hw⟩ := hw
      refine r_i2l hC dX12_column_22 o10.1 o10.2 ?_
      refine r_lconst hC 0 dX12_column_23 (by decide) ?_
      refine r_iload_n hC dX12_column_24 rfl rfl ?_
      obtain ⟨o11, hw⟩ := hw
      obtain ⟨hwt, hwf⟩ := hw
      refine r_if_ne hC 34 dX12_column_25 (by decide) o11.1 o11.2 (fun c13 => ?_) (fun c13 => ?_)
      · have hw := hwt c13
        refine r_ldc2 hC (400) dX12_column_34 kL12_178 (by decide) ?_
        exact r_subk (s_m_column_j0 hC hQ hw) ⟨rfl, rfl, rfl, rfl, trivial⟩
      · have hw := hwf c13
        refine r_ldc2 hC (999) dX12_column_28 kL12_176 (by decide) ?_
        refine r_goto hC 37 dX12_column_31 (by decide) ?_
        exact r_subk (s_m_column_j0 hC hQ hw) ⟨rfl, rfl, rfl, rfl, trivial⟩
  · have hw := hwf c4
    refine r_sipush hC dX12_column_7 (by decide) ?_
    exact hQ _ _ _ _ dX12_column_10 hw
set_option maxRecDepth 100000 in
set_option maxHeartbeats 4000000 in
theorem d_m_column {l : Launch} {D : va_G} {aC : Nat → ClassId} {ad : Nat → Nat} {M : Mem} {x1 : Int} {x2 : Int} {x3 : Int} {Q : Int → Mem → Prop} (hw : w_m_column M x1 x2 x3 Q) : Does l D aC ad yX12_column cX12_column 5 (some .int) 2 45 [vR 12, vI x1, vI x2, vI x3] M (pI Q) :=
  Does.of (by decide) (Nat.le_of_ble_eq_true rfl) (fun p e R s m args below meth c hC => r_subk (s_m_column hC (fun pc L z M d h => r_iret hC d ⟨z, rfl, h⟩) hw) ⟨rfl, rfl, rfl, rfl, trivial⟩)
/-- SoupSandModel.layer -/
def w_m_layer (M : Mem) (x1 : Int) (x2 : Int) (x3 : Int) (x4 : Int) (Q : Int → Mem → Prop) : Prop :=
  w_m_isColumn M x1 (fun a1 => (-2147483648 ≤ a1 ∧ a1 ≤ 2147483647) ∧ ((¬ (a1 = 0) → (-2147483648 ≤ x2 ∧ x2 ≤ 2147483647) ∧ (w_m_in M x2 0 3 (fun a6 => (-2147483648 ≤ a6 ∧ a6 ≤ 2147483647) ∧ ((a6 = 0 → Q (-1002) M) ∧ (¬ (a6 = 0) → (-2147483648 ≤ x3 ∧ x3 ≤ 2147483647) ∧ (w_m_in M x3 1 60 (fun a11 => (-2147483648 ≤ a11 ∧ a11 ≤ 2147483647) ∧ ((a11 = 0 → Q (-1002) M) ∧ (¬ (a11 = 0) → (-2147483648 ≤ x4 ∧ x4 ≤ 2147483647) ∧ (w_m_in M x4 0 100 (fun a16 => (-2147483648 ≤ a16 ∧ a16 ≤ 2147483647) ∧ ((¬ (a16 = 0) → (0 ≤ x1 ∧ x1 < 6) ∧ (∀ a21 : Int, a21 = M 55 x1 → 0 ≤ a21 → a21 ≤ 6 → (¬ (a21 = 6) → (0 ≤ x1 ∧ x1 < 6) ∧ (∀ a27 : Int, a27 = M 55 x1 → 0 ≤ a27 → a27 ≤ 6 → ((0 ≤ (6 * x1) + a27 ∧ (6 * x1) + a27 < 36) ∧ (0 ≤ x2 ∧ x2 ≤ 3)) ∧ (∀ M30 : Mem, M30 = mset M 56 ((6 * x1) + a27) x2 → ((0 ≤ (6 * x1) + a27 ∧ (6 * x1) + a27 < 36) ∧ (0 ≤ x3 ∧ x3 ≤ 60)) ∧ (∀ M32 : Mem, M32 = mset M30 57 ((6 * x1) + a27) x3 → (0 ≤ (6 * x1) + a27 ∧ (6 * x1) + a27 < 36) ∧ (∀ M34 : Mem, M34 = mset M32 58 ((6 * x1) + a27) 1 → ((0 ≤ 3 * ((6 * x1) + a27) ∧ 3 * ((6 * x1) + a27) < 108) ∧ (0 ≤ x4 ∧ x4 ≤ 100)) ∧ (∀ M36 : Mem, M36 = mset M34 59 (3 * ((6 * x1) + a27)) x4 → (0 ≤ 3 * ((6 * x1) + a27) ∧ 3 * ((6 * x1) + a27) < 108) ∧ (∀ M38 : Mem, M38 = mset M36 60 (3 * ((6 * x1) + a27)) 1 → (0 ≤ x1 ∧ x1 < 6) ∧ (∀ a40 : Int, a40 = M38 55 x1 → 0 ≤ a40 → a40 ≤ 6 → ((0 ≤ x1 ∧ x1 < 6) ∧ (0 ≤ a40 + 1 ∧ a40 + 1 ≤ 6)) ∧ (∀ M43 : Mem, M43 = mset M38 55 x1 (a40 + 1) → w_m_change M43 (fun M45 => (0 ≤ x1 ∧ x1 < 6) ∧ (∀ a47 : Int, a47 = M45 55 x1 → 0 ≤ a47 → a47 ≤ 6 → Q (a47 - 1) M45))))))))))) ∧ (a21 = 6 → Q (-1004) M))) ∧ (a16 = 0 → Q (-1002) M))))))))))))) ∧ (a1 = 0 → Q (-1001) M)))
set_option maxRecDepth 100000 in
set_option maxHeartbeats 4000000 in
theorem s_m_layer {M : Mem} {x1 : Int} {x2 : Int} {x3 : Int} {x4 : Int} {Q : Int → Mem → Prop} (hC : rC p R s m args meth c cells slots D aC ad 6 cX12_layer RX12 2 45 (some .int)) (hQ : ∀ (pc : Nat) (L : List (Nat × RV)) (z : Int) (M : Mem), decode cX12_layer pc = .ok (.ireturn, 1) → Q z M → rG p l e R s m args below meth c cells slots Qs D aC ad 6 pc L [vI z] M) (hw : w_m_layer M x1 x2 x3 x4 Q) : rG p l e R s m args below meth c cells slots Qs D aC ad 6 0 [(0, vR 12), (1, vI x1), (2, vI x2), (3, vI x3), (4, vI x4)] [] M := by
  unfold w_m_layer at hw
  refine r_iload_n hC dX12_layer_0 rfl rfl ?_
  refine r_callS hC (d_m_isColumn hw) kC12_isColumn km12_169 kT12_isColumn kN12 dd_12_isColumn ⟨Nat.le_of_ble_eq_true rfl, Nat.le_of_ble_eq_true rfl⟩ rfl (Nat.le_of_ble_eq_true rfl) dX12_layer_1 (fun r M' hp => ?_)
  obtain ⟨rfl, a1, rfl, hw⟩ := hp
  try dsimp only at hw
  obtain ⟨o2, hw⟩ := hw
  obtain ⟨hwt, hwf⟩ := hw
  refine r_if_ne hC 11 dX12_layer_4 (by decide) o2.1 o2.2 (fun c4 => ?_) (fun c4 => ?_)
  · have hw := hwt c4
    refine r_iload_n hC dX12_layer_11 rfl rfl ?_
    obtain ⟨o5, hw⟩ := hw
    refine r_i2l hC dX12_layer_12 o5.1 o5.2 ?_
    refine r_lconst hC 0 dX12_layer_13 (by decide) ?_
    refine r_ldc2 hC (3) dX12_layer_14 kL12_180 (by decide) ?_
    refine r_callS hC (d_m_in hw) kC12_in km12_165 kT12_in kN12 dd_12_in ⟨Nat.le_of_ble_eq_true rfl, Nat.le_of_ble_eq_true rfl⟩ rfl (Nat.le_of_ble_eq_true rfl) dX12_layer_17 (fun r M' hp => ?_)
    obtain ⟨rfl, a6, rfl, hw⟩ := hp
    try dsimp only at hw
    obtain ⟨o7, hw⟩ := hw
    obtain ⟨hwt, hwf⟩ := hw
    refine r_if_eq hC 48 dX12_layer_20 (by decide) o7.1 o7.2 (fun c9 => ?_) (fun c9 => ?_)
    · have hw := hwt c9
      refine r_sipush hC dX12_layer_48 (by decide) ?_
      exact hQ _ _ _ _ dX12_layer_51 hw
    · have hw := hwf c9
      refine r_iload_n hC dX12_layer_23 rfl rfl ?_
      obtain ⟨o10, hw⟩ := hw
      refine r_i2l hC dX12_layer_24 o10.1 o10.2 ?_
      refine r_lconst hC 1 dX12_layer_25 (by decide) ?_
      refine r_ldc2 hC (60) dX12_layer_26 kL12_182 (by decide) ?_
      refine r_callS hC (d_m_in hw) kC12_in km12_165 kT12_in kN12 dd_12_in ⟨Nat.le_of_ble_eq_true rfl, Nat.le_of_ble_eq_true rfl⟩ rfl (Nat.le_of_ble_eq_true rfl) dX12_layer_29 (fun r M' hp => ?_)
      obtain ⟨rfl, a11, rfl, hw⟩ := hp
      try dsimp only at hw
      obtain ⟨o12, hw⟩ := hw
      obtain ⟨hwt, hwf⟩ := hw
      refine r_if_eq hC 48 dX12_layer_32 (by decide) o12.1 o12.2 (fun c14 => ?_) (fun c14 => ?_)
      · have hw := hwt c14
        refine r_sipush hC dX12_layer_48 (by decide) ?_
        exact hQ _ _ _ _ dX12_layer_51 hw
      · have hw := hwf c14
        refine r_iload hC dX12_layer_35 rfl ?_
        obtain ⟨o15, hw⟩ := hw
        refine r_i2l hC dX12_layer_37 o15.1 o15.2 ?_
        refine r_lconst hC 0 dX12_layer_38 (by decide) ?_
        refine r_ldc2 hC (100) dX12_layer_39 kL12_184 (by decide) ?_
        refine r_callS hC (d_m_in hw) kC12_in km12_165 kT12_in kN12 dd_12_in ⟨Nat.le_of_ble_eq_true rfl, Nat.le_of_ble_eq_true rfl⟩ rfl (Nat.le_of_ble_eq_true rfl) dX12_layer_42 (fun r M' hp => ?_)
        obtain ⟨rfl, a16, rfl, hw⟩ := hp
        try dsimp only at hw
        obtain ⟨o17, hw⟩ := hw
        obtain ⟨hwt, hwf⟩ := hw
        refine r_if_ne hC 52 dX12_layer_45 (by decide) o17.1 o17.2 (fun c19 => ?_) (fun c19 => ?_)
        · have hw := hwt c19
          refine r_aload_n hC dX12_layer_52 rfl rfl ?_
          refine r_getR hC 2 rfl (by decide) kf12_16 rfl rfl dX12_layer_53 ?_
          refine r_iload_n hC dX12_layer_56 rfl rfl ?_
          obtain ⟨o20, hw⟩ := hw
          refine r_iald hC rfl o20.1 o20.2 (by decide) (by decide) dX12_layer_57 (fun b22 b22' => ?_)
          replace hw := hw _ rfl b22 b22'
          refine r_bipush hC dX12_layer_58 (by decide) ?_
          obtain ⟨hwt, hwf⟩ := hw
          refine r_icmp_ne hC 67 dX12_layer_60 (by decide) (by omega) (by omega) (by decide) (by decide) (fun c25 => ?_) (fun c25 => ?_)
          · have hw := hwt c25
            refine r_bipush hC dX12_layer_67 (by decide) ?_
            refine r_iload_n hC dX12_layer_69 rfl rfl ?_
            refine r_imul hC dX12_layer_70 ?_
            refine r_aload_n hC dX12_layer_71 rfl rfl ?_
            refine r_getR hC 2 rfl (by decide) kf12_16 rfl rfl dX12_layer_72 ?_
            refine r_iload_n hC dX12_layer_75 rfl rfl ?_
            obtain ⟨o26, hw⟩ := hw
            refine r_iald hC rfl o26.1 o26.2 (by decide) (by decide) dX12_layer_76 (fun b28 b28' => ?_)
            replace hw := hw _ rfl b28 b28'
            refine r_iadd hC dX12_layer_77 ?_
            refine r_istore hC dX12_layer_78 (by decide) ?_
            refine r_aload_n hC dX12_layer_80 rfl rfl ?_
            refine r_getR hC 3 rfl (by decide) kf12_19 rfl rfl dX12_layer_81 ?_
            refine r_iload hC dX12_layer_84 rfl ?_
            refine r_iload_n hC dX12_layer_86 rfl rfl ?_
            obtain ⟨o29, hw⟩ := hw
            refine r_iast hC rfl o29.1.1 o29.1.2 (by decide) (by decide) o29.2.1 o29.2.2 dX12_layer_87 ?_
            replace hw := hw _ rfl
            refine r_aload_n hC dX12_layer_88 rfl rfl ?_
            refine r_getR hC 4 rfl (by decide) kf12_22 rfl rfl dX12_layer_89 ?_
            refine r_iload hC dX12_layer_92 rfl ?_
            refine r_iload_n hC dX12_layer_94 rfl rfl ?_
            obtain ⟨o31, hw⟩ := hw
            refine r_iast hC rfl o31.1.1 o31.1.2 (by decide) (by decide) o31.2.1 o31.2.2 dX12_layer_95 ?_
            replace hw := hw _ rfl
            refine r_aload_n hC dX12_layer_96 rfl rfl ?_
            refine r_getR hC 5 rfl (by decide) kf12_25 rfl rfl dX12_layer_97 ?_
            refine r_iload hC dX12_layer_100 rfl ?_
            refine r_iconst hC dX12_layer_102 ?_
            obtain ⟨o33, hw⟩ := hw
            refine r_iast hC rfl o33.1 o33.2 (by decide) (by decide) (by decide) (by decide) dX12_layer_103 ?_
            replace hw := hw _ rfl
            refine r_aload_n hC dX12_layer_104 rfl rfl ?_
            refine r_getR hC 6 rfl (by decide) kf12_28 rfl rfl dX12_layer_105 ?_
            refine r_iconst hC dX12_layer_108 ?_
            refine r_iload hC dX12_layer_109 rfl ?_
            refine r_imul hC dX12_layer_111 ?_
            refine r_iload hC dX12_layer_112 rfl ?_
            obtain ⟨o35, hw⟩ := hw
            refine r_iast hC rfl o35.1.1 o35.1.2 (by decide) (by decide) o35.2.1 o35.2.2 dX12_layer_114 ?_
            replace hw := hw _ rfl
            refine r_aload_n hC dX12_layer_115 rfl rfl ?_
            refine r_getR hC 7 rfl (by decide) kf12_31 rfl rfl dX12_layer_116 ?_
            refine r_iconst hC dX12_layer_119 ?_
            refine r_iload hC dX12_layer_120 rfl ?_
            refine r_imul hC dX12_layer_122 ?_
            refine r_iconst hC dX12_layer_123 ?_
            obtain ⟨o37, hw⟩ := hw
            refine r_iast hC rfl o37.1 o37.2 (by decide) (by decide) (by decide) (by decide) dX12_layer_124 ?_
            replace hw := hw _ rfl
            refine r_aload_n hC dX12_layer_125 rfl rfl ?_
            refine r_getR hC 2 rfl (by decide) kf12_16 rfl rfl dX12_layer_126 ?_
            refine r_iload_n hC dX12_layer_129 rfl rfl ?_
            refine r_dup2 hC dX12_layer_130 rfl rfl ?_
            obtain ⟨o39, hw⟩ := hw
            refine r_iald hC rfl o39.1 o39.2 (by decide) (by decide) dX12_layer_131 (fun b41 b41' => ?_)
            replace hw := hw _ rfl b41 b41'
            refine r_iconst hC dX12_layer_132 ?_
            refine r_iadd hC dX12_layer_133 ?_
            obtain ⟨o42, hw⟩ := hw
            refine r_iast hC rfl o42.1.1 o42.1.2 (by decide) (by decide) o42.2.1 o42.2.2 dX12_layer_134 ?_
            replace hw := hw _ rfl
            refine r_aload_n hC dX12_layer_135 rfl rfl ?_
            refine r_callV hC (d_m_change hw) rfl kC12_change km12_160 kI12_change kS12_change kN12 dd_12_change ⟨Nat.le_of_ble_eq_true rfl, Nat.le_of_ble_eq_true rfl⟩ rfl (Nat.le_of_ble_eq_true rfl) dX12_layer_136 (fun r M' hp => ?_)
            obtain ⟨rfl, hw⟩ := hp
            try dsimp only at hw
            refine r_aload_n hC dX12_layer_139 rfl rfl ?_
            refine r_getR hC 2 rfl (by decide) kf12_16 rfl rfl dX12_layer_140 ?_
            refine r_iload_n hC dX12_layer_143 rfl rfl ?_
            obtain ⟨o46, hw⟩ := hw
            refine r_iald hC rfl o46.1 o46.2 (by decide) (by decide) dX12_layer_144 (fun b48 b48' => ?_)
            replace hw := hw _ rfl b48 b48'
            refine r_iconst hC dX12_layer_145 ?_
            refine r_isub hC dX12_layer_146 ?_
            exact hQ _ _ _ _ dX12_layer_147 hw
          · have hw := hwf c25
            refine r_sipush hC dX12_layer_63 (by decide) ?_
            exact hQ _ _ _ _ dX12_layer_66 hw
        · have hw := hwf c19
          refine r_sipush hC dX12_layer_48 (by decide) ?_
          exact hQ _ _ _ _ dX12_layer_51 hw
  · have hw := hwf c4
    refine r_sipush hC dX12_layer_7 (by decide) ?_
    exact hQ _ _ _ _ dX12_layer_10 hw
set_option maxRecDepth 100000 in
set_option maxHeartbeats 4000000 in
theorem d_m_layer {l : Launch} {D : va_G} {aC : Nat → ClassId} {ad : Nat → Nat} {M : Mem} {x1 : Int} {x2 : Int} {x3 : Int} {x4 : Int} {Q : Int → Mem → Prop} (hw : w_m_layer M x1 x2 x3 x4 Q) : Does l D aC ad yX12_layer cX12_layer 6 (some .int) 2 45 [vR 12, vI x1, vI x2, vI x3, vI x4] M (pI Q) :=
  Does.of (by decide) (Nat.le_of_ble_eq_true rfl) (fun p e R s m args below meth c hC => r_subk (s_m_layer hC (fun pc L z M d h => r_iret hC d ⟨z, rfl, h⟩) hw) ⟨rfl, rfl, rfl, rfl, rfl, trivial⟩)
/-- SoupSandModel.isLayer -/
def w_m_isLayer (M : Mem) (x1 : Int) (x2 : Int) (Q : Int → Prop) : Prop :=
  w_m_isColumn M x1 (fun a1 => (-2147483648 ≤ a1 ∧ a1 ≤ 2147483647) ∧ ((a1 = 0 → Q 0) ∧ (¬ (a1 = 0) → (-2147483648 ≤ x2 ∧ x2 ≤ 2147483647) ∧ ((0 ≤ x1 ∧ x1 < 6) ∧ (∀ a8 : Int, a8 = M 55 x1 → 0 ≤ a8 → a8 ≤ 6 → w_m_in M x2 0 (a8 - 1) (fun a11 => (-2147483648 ≤ a11 ∧ a11 ≤ 2147483647) ∧ ((a11 = 0 → Q 0) ∧ (¬ (a11 = 0) → Q 1))))))))
set_option maxRecDepth 100000 in
set_option maxHeartbeats 4000000 in
theorem s_m_isLayer {M : Mem} {x1 : Int} {x2 : Int} {Q : Int → Prop} (hC : rC p R s m args meth c cells slots D aC ad 3 cX12_isLayer RX12 2 45 (some .boolean)) (hQ : ∀ (pc : Nat) (L : List (Nat × RV)) (z : Int), decode cX12_isLayer pc = .ok (.ireturn, 1) → 0 ≤ z → z ≤ 1 → Q z → rG p l e R s m args below meth c cells slots Qs D aC ad 3 pc L [vI z] M) (hw : w_m_isLayer M x1 x2 Q) : rG p l e R s m args below meth c cells slots Qs D aC ad 3 0 [(0, vR 12), (1, vI x1), (2, vI x2)] [] M := by
  unfold w_m_isLayer at hw
  refine r_iload_n hC dX12_isLayer_0 rfl rfl ?_
  refine r_callS hC (d_m_isColumn hw) kC12_isColumn km12_169 kT12_isColumn kN12 dd_12_isColumn ⟨Nat.le_of_ble_eq_true rfl, Nat.le_of_ble_eq_true rfl⟩ rfl (Nat.le_of_ble_eq_true rfl) dX12_isLayer_1 (fun r M' hp => ?_)
  obtain ⟨rfl, a1, rfl, hw⟩ := hp
  try dsimp only at hw
  obtain ⟨o2, hw⟩ := hw
  obtain ⟨hwt, hwf⟩ := hw
  refine r_if_eq hC 29 dX12_isLayer_4 (by decide) o2.1 o2.2 (fun c4 => ?_) (fun c4 => ?_)
  · have hw := hwt c4
    refine r_iconst hC dX12_isLayer_29 ?_
    exact hQ _ _ _ dX12_isLayer_30 (by decide) (by decide) hw
  · have hw := hwf c4
    refine r_iload_n hC dX12_isLayer_7 rfl rfl ?_
    obtain ⟨o6, hw⟩ := hw
    refine r_i2l hC dX12_isLayer_8 o6.1 o6.2 ?_
    refine r_lconst hC 0 dX12_isLayer_9 (by decide) ?_
    refine r_aload_n hC dX12_isLayer_10 rfl rfl ?_
    refine r_getR hC 2 rfl (by decide) kf12_16 rfl rfl dX12_isLayer_11 ?_
    refine r_iload_n hC dX12_isLayer_14 rfl rfl ?_
    obtain ⟨o7, hw⟩ := hw
    refine r_iald hC rfl o7.1 o7.2 (by decide) (by decide) dX12_isLayer_15 (fun b9 b9' => ?_)
    replace hw := hw _ rfl b9 b9'
    refine r_iconst hC dX12_isLayer_16 ?_
    refine r_isub hC dX12_isLayer_17 ?_
    refine r_i2l hC dX12_isLayer_18 (by omega) (by omega) ?_
    refine r_callS hC (d_m_in hw) kC12_in km12_165 kT12_in kN12 dd_12_in ⟨Nat.le_of_ble_eq_true rfl, Nat.le_of_ble_eq_true rfl⟩ rfl (Nat.le_of_ble_eq_true rfl) dX12_isLayer_19 (fun r M' hp => ?_)
    obtain ⟨rfl, a11, rfl, hw⟩ := hp
    try dsimp only at hw
    obtain ⟨o12, hw⟩ := hw
    obtain ⟨hwt, hwf⟩ := hw
    refine r_if_eq hC 29 dX12_isLayer_22 (by decide) o12.1 o12.2 (fun c14 => ?_) (fun c14 => ?_)
    · have hw := hwt c14
      refine r_iconst hC dX12_isLayer_29 ?_
      exact hQ _ _ _ dX12_isLayer_30 (by decide) (by decide) hw
    · have hw := hwf c14
      refine r_iconst hC dX12_isLayer_25 ?_
      refine r_goto hC 30 dX12_isLayer_26 (by decide) ?_
      exact hQ _ _ _ dX12_isLayer_30 (by decide) (by decide) hw
set_option maxRecDepth 100000 in
set_option maxHeartbeats 4000000 in
theorem d_m_isLayer {l : Launch} {D : va_G} {aC : Nat → ClassId} {ad : Nat → Nat} {M : Mem} {x1 : Int} {x2 : Int} {Q : Int → Prop} (hw : w_m_isLayer M x1 x2 Q) : Does l D aC ad yX12_isLayer cX12_isLayer 3 (some .boolean) 2 45 [vR 12, vI x1, vI x2] M (qI M Q) :=
  Does.of (by decide) (Nat.le_of_ble_eq_true rfl) (fun p e R s m args below meth c hC => r_subk (s_m_isLayer hC (fun pc L z d z1 z2 h => r_zret hC d z1 z2 ⟨rfl, ⟨z, rfl, h⟩⟩) hw) ⟨rfl, rfl, rfl, trivial⟩)
theorem dd_12_isLayer : yX12_isLayer.cls ≠ "java/lang/invoke/MethodHandle" ∧ yX12_isLayer.cls ≠ "java/lang/invoke/VarHandle" ∧ (parseMethodDescriptor yX12_isLayer.desc).map (fun d => d.parameters.length) = some 2 := by decide +kernel
/-- SoupSandModel.loose -/
def w_m_loose_B0 (Q : Int → Mem → Prop) (x3 : Int) (x4 : Int) (x5 : Int) (M : Mem) (X53 : Int → Prop) (x6 : Int) : Prop :=
  (0 ≤ x5 ∧ x5 < 36) ∧ (∀ a2 : Int, a2 = M 58 x5 → 0 ≤ a2 → a2 ≤ 3 → (-2147483648 ≤ x6 ∧ x6 ≤ 2147483647) ∧ ((a2 ≤ x6 → (0 ≤ x5 ∧ x5 < 36) ∧ (∀ a8 : Int, a8 = M 58 x5 → 0 ≤ a8 → a8 ≤ 3 → (¬ (a8 = 3) → (0 ≤ x5 ∧ x5 < 36) ∧ (∀ a14 : Int, a14 = M 58 x5 → 0 ≤ a14 → a14 ≤ 3 → ((0 ≤ (3 * x5) + a14 ∧ (3 * x5) + a14 < 108) ∧ (0 ≤ x3 ∧ x3 ≤ 100)) ∧ (∀ M17 : Mem, M17 = mset M 59 ((3 * x5) + a14) x3 → (0 ≤ x5 ∧ x5 < 36) ∧ (∀ a19 : Int, a19 = M17 58 x5 → 0 ≤ a19 → a19 ≤ 3 → ((0 ≤ (3 * x5) + a19 ∧ (3 * x5) + a19 < 108) ∧ (0 ≤ x4 ∧ x4 ≤ 9)) ∧ (∀ M22 : Mem, M22 = mset M17 60 ((3 * x5) + a19) x4 → (0 ≤ x5 ∧ x5 < 36) ∧ (∀ a24 : Int, a24 = M22 58 x5 → 0 ≤ a24 → a24 ≤ 3 → ((0 ≤ x5 ∧ x5 < 36) ∧ (0 ≤ a24 + 1 ∧ a24 + 1 ≤ 3)) ∧ (∀ M27 : Mem, M27 = mset M22 58 x5 (a24 + 1) → w_m_change M27 (fun M29 => (0 ≤ x5 ∧ x5 < 36) ∧ (∀ a31 : Int, a31 = M29 58 x5 → 0 ≤ a31 → a31 ≤ 3 → Q a31 M29))))))))) ∧ (a8 = 3 → Q (-1004) M))) ∧ (¬ (a2 ≤ x6) → (0 ≤ (3 * x5) + x6 ∧ (3 * x5) + x6 < 108) ∧ (∀ a34 : Int, a34 = M 59 ((3 * x5) + x6) → 0 ≤ a34 → a34 ≤ 100 → (-2147483648 ≤ x3 ∧ x3 ≤ 2147483647) ∧ ((¬ (a34 = x3) → X53 (x6 + 1)) ∧ (a34 = x3 → Q (-1003) M))))))
set_option maxRecDepth 100000 in
set_option maxHeartbeats 4000000 in
theorem s_m_loose_B0 {Q : Int → Mem → Prop} {x3 : Int} {x4 : Int} {x5 : Int} {M : Mem} {X53 : Int → Prop} {x6 : Int} (hC : rC p R s m args meth c cells slots D aC ad 7 cX12_loose RX12 3 67 (some .int)) (hQ : ∀ (pc : Nat) (L : List (Nat × RV)) (z : Int) (M : Mem), decode cX12_loose pc = .ok (.ireturn, 1) → Q z M → rG p l e R s m args below meth c cells slots Qs D aC ad 7 pc L [vI z] M) (hX53 : ∀ (x6 : Int), X53 x6 → rG p l e R s m args below meth c cells slots Qs D aC ad 7 53 [(0, vR 12), (3, vI x3), (4, vI x4), (5, vI x5), (6, vI x6)] [] M) (hw : w_m_loose_B0 Q x3 x4 x5 M X53 x6) : rG p l e R s m args below meth c cells slots Qs D aC ad 7 53 [(0, vR 12), (3, vI x3), (4, vI x4), (5, vI x5), (6, vI x6)] [] M := by
  unfold w_m_loose_B0 at hw
  refine r_iload hC dX12_loose_53 rfl ?_
  refine r_aload_n hC dX12_loose_55 rfl rfl ?_
  refine r_getR hC 5 rfl (by decide) kf12_25 rfl rfl dX12_loose_56 ?_
  refine r_iload hC dX12_loose_59 rfl ?_
  obtain ⟨o1, hw⟩ := hw
  refine r_iald hC rfl o1.1 o1.2 (by decide) (by decide) dX12_loose_61 (fun b3 b3' => ?_)
  replace hw := hw _ rfl b3 b3'
  obtain ⟨o4, hw⟩ := hw
  obtain ⟨hwt, hwf⟩ := hw
  refine r_icmp_ge hC 91 dX12_loose_62 (by decide) o4.1 o4.2 (by omega) (by omega) (fun c6 => ?_) (fun c6 => ?_)
  · have hw := hwt c6
    refine r_aload_n hC dX12_loose_91 rfl rfl ?_
    refine r_getR hC 5 rfl (by decide) kf12_25 rfl rfl dX12_loose_92 ?_
    refine r_iload hC dX12_loose_95 rfl ?_
    obtain ⟨o7, hw⟩ := hw
    refine r_iald hC rfl o7.1 o7.2 (by decide) (by decide) dX12_loose_97 (fun b9 b9' => ?_)
    replace hw := hw _ rfl b9 b9'
    refine r_iconst hC dX12_loose_98 ?_
    obtain ⟨hwt, hwf⟩ := hw
    refine r_icmp_ne hC 106 dX12_loose_99 (by decide) (by omega) (by omega) (by decide) (by decide) (fun c12 => ?_) (fun c12 => ?_)
    · have hw := hwt c12
      refine r_aload_n hC dX12_loose_106 rfl rfl ?_
      refine r_getR hC 6 rfl (by decide) kf12_28 rfl rfl dX12_loose_107 ?_
      refine r_iconst hC dX12_loose_110 ?_
      refine r_iload hC dX12_loose_111 rfl ?_
      refine r_imul hC dX12_loose_113 ?_
      refine r_aload_n hC dX12_loose_114 rfl rfl ?_
      refine r_getR hC 5 rfl (by decide) kf12_25 rfl rfl dX12_loose_115 ?_
      refine r_iload hC dX12_loose_118 rfl ?_
      obtain ⟨o13, hw⟩ := hw
      refine r_iald hC rfl o13.1 o13.2 (by decide) (by decide) dX12_loose_120 (fun b15 b15' => ?_)
      replace hw := hw _ rfl b15 b15'
      refine r_iadd hC dX12_loose_121 ?_
      refine r_iload_n hC dX12_loose_122 rfl rfl ?_
      obtain ⟨o16, hw⟩ := hw
      refine r_iast hC rfl o16.1.1 o16.1.2 (by decide) (by decide) o16.2.1 o16.2.2 dX12_loose_123 ?_
      replace hw := hw _ rfl
      refine r_aload_n hC dX12_loose_124 rfl rfl ?_
      refine r_getR hC 7 rfl (by decide) kf12_31 rfl rfl dX12_loose_125 ?_
      refine r_iconst hC dX12_loose_128 ?_
      refine r_iload hC dX12_loose_129 rfl ?_
      refine r_imul hC dX12_loose_131 ?_
      refine r_aload_n hC dX12_loose_132 rfl rfl ?_
      refine r_getR hC 5 rfl (by decide) kf12_25 rfl rfl dX12_loose_133 ?_
      refine r_iload hC dX12_loose_136 rfl ?_
      obtain ⟨o18, hw⟩ := hw
      refine r_iald hC rfl o18.1 o18.2 (by decide) (by decide) dX12_loose_138 (fun b20 b20' => ?_)
      replace hw := hw _ rfl b20 b20'
      refine r_iadd hC dX12_loose_139 ?_
      refine r_iload hC dX12_loose_140 rfl ?_
      obtain ⟨o21, hw⟩ := hw
      refine r_iast hC rfl o21.1.1 o21.1.2 (by decide) (by decide) o21.2.1 o21.2.2 dX12_loose_142 ?_
      replace hw := hw _ rfl
      refine r_aload_n hC dX12_loose_143 rfl rfl ?_
      refine r_getR hC 5 rfl (by decide) kf12_25 rfl rfl dX12_loose_144 ?_
      refine r_iload hC dX12_loose_147 rfl ?_
      refine r_dup2 hC dX12_loose_149 rfl rfl ?_
      obtain ⟨o23, hw⟩ := hw
      refine r_iald hC rfl o23.1 o23.2 (by decide) (by decide) dX12_loose_150 (fun b25 b25' => ?_)
      replace hw := hw _ rfl b25 b25'
      refine r_iconst hC dX12_loose_151 ?_
      refine r_iadd hC dX12_loose_152 ?_
      obtain ⟨o26, hw⟩ := hw
      refine r_iast hC rfl o26.1.1 o26.1.2 (by decide) (by decide) o26.2.1 o26.2.2 dX12_loose_153 ?_
      replace hw := hw _ rfl
      refine r_aload_n hC dX12_loose_154 rfl rfl ?_
      refine r_callV hC (d_m_change hw) rfl kC12_change km12_160 kI12_change kS12_change kN12 dd_12_change ⟨Nat.le_of_ble_eq_true rfl, Nat.le_of_ble_eq_true rfl⟩ rfl (Nat.le_of_ble_eq_true rfl) dX12_loose_155 (fun r M' hp => ?_)
      obtain ⟨rfl, hw⟩ := hp
      try dsimp only at hw
      refine r_aload_n hC dX12_loose_158 rfl rfl ?_
      refine r_getR hC 5 rfl (by decide) kf12_25 rfl rfl dX12_loose_159 ?_
      refine r_iload hC dX12_loose_162 rfl ?_
      obtain ⟨o30, hw⟩ := hw
      refine r_iald hC rfl o30.1 o30.2 (by decide) (by decide) dX12_loose_164 (fun b32 b32' => ?_)
      replace hw := hw _ rfl b32 b32'
      exact hQ _ _ _ _ dX12_loose_165 hw
    · have hw := hwf c12
      refine r_sipush hC dX12_loose_102 (by decide) ?_
      exact hQ _ _ _ _ dX12_loose_105 hw
  · have hw := hwf c6
    refine r_aload_n hC dX12_loose_65 rfl rfl ?_
    refine r_getR hC 6 rfl (by decide) kf12_28 rfl rfl dX12_loose_66 ?_
    refine r_iconst hC dX12_loose_69 ?_
    refine r_iload hC dX12_loose_70 rfl ?_
    refine r_imul hC dX12_loose_72 ?_
    refine r_iload hC dX12_loose_73 rfl ?_
    refine r_iadd hC dX12_loose_75 ?_
    obtain ⟨o33, hw⟩ := hw
    refine r_iald hC rfl o33.1 o33.2 (by decide) (by decide) dX12_loose_76 (fun b35 b35' => ?_)
    replace hw := hw _ rfl b35 b35'
    refine r_iload_n hC dX12_loose_77 rfl rfl ?_
    obtain ⟨o37, hw⟩ := hw
    obtain ⟨hwt, hwf⟩ := hw
    refine r_icmp_ne hC 85 dX12_loose_78 (by decide) (by omega) (by omega) o37.1 o37.2 (fun c38 => ?_) (fun c38 => ?_)
    · have hw := hwt c38
      refine r_iinc hC dX12_loose_85 rfl (by decide) ?_
      refine r_goto hC 53 dX12_loose_88 (by decide) ?_
      exact r_subk (hX53 _ hw) ⟨rfl, rfl, rfl, rfl, rfl, trivial⟩
    · have hw := hwf c38
      refine r_sipush hC dX12_loose_81 (by decide) ?_
      exact hQ _ _ _ _ dX12_loose_84 hw
def w_m_loose_L0 (Q : Int → Mem → Prop) (x3 : Int) (x4 : Int) (x5 : Int) (M : Mem) (x6 : Int) : Prop :=
  ∀ X : Int → Prop, (∀ (x6 : Int), w_m_loose_B0 Q x3 x4 x5 M X x6 → X x6) → X x6
set_option maxRecDepth 100000 in
set_option maxHeartbeats 4000000 in
theorem s_m_loose_L0 {Q : Int → Mem → Prop} {x3 : Int} {x4 : Int} {x5 : Int} {M : Mem} {x6 : Int} (hC : rC p R s m args meth c cells slots D aC ad 7 cX12_loose RX12 3 67 (some .int)) (hQ : ∀ (pc : Nat) (L : List (Nat × RV)) (z : Int) (M : Mem), decode cX12_loose pc = .ok (.ireturn, 1) → Q z M → rG p l e R s m args below meth c cells slots Qs D aC ad 7 pc L [vI z] M) (hw : w_m_loose_L0 Q x3 x4 x5 M x6) : rG p l e R s m args below meth c cells slots Qs D aC ad 7 53 [(0, vR 12), (3, vI x3), (4, vI x4), (5, vI x5), (6, vI x6)] [] M := by
  unfold w_m_loose_L0 at hw
  exact hw (fun x6 => rG p l e R s m args below meth c cells slots Qs D aC ad 7 53 [(0, vR 12), (3, vI x3), (4, vI x4), (5, vI x5), (6, vI x6)] [] M) (fun x6 hb => s_m_loose_B0 hC hQ (fun _ h => h) hb)
def w_m_loose (M : Mem) (x1 : Int) (x2 : Int) (x3 : Int) (x4 : Int) (Q : Int → Mem → Prop) : Prop :=
  w_m_isLayer M x1 x2 (fun a1 => (-2147483648 ≤ a1 ∧ a1 ≤ 2147483647) ∧ ((¬ (a1 = 0) → (-2147483648 ≤ x3 ∧ x3 ≤ 2147483647) ∧ (w_m_in M x3 0 100 (fun a6 => (-2147483648 ≤ a6 ∧ a6 ≤ 2147483647) ∧ ((a6 = 0 → Q (-1002) M) ∧ (¬ (a6 = 0) → (-2147483648 ≤ x4 ∧ x4 ≤ 2147483647) ∧ (w_m_in M x4 1 9 (fun a11 => (-2147483648 ≤ a11 ∧ a11 ≤ 2147483647) ∧ ((¬ (a11 = 0) → w_m_loose_L0 Q x3 x4 ((6 * x1) + x2) M 0) ∧ (a11 = 0 → Q (-1002) M))))))))) ∧ (a1 = 0 → Q (-1001) M)))
set_option maxRecDepth 100000 in
set_option maxHeartbeats 4000000 in
theorem s_m_loose {M : Mem} {x1 : Int} {x2 : Int} {x3 : Int} {x4 : Int} {Q : Int → Mem → Prop} (hC : rC p R s m args meth c cells slots D aC ad 7 cX12_loose RX12 3 67 (some .int)) (hQ : ∀ (pc : Nat) (L : List (Nat × RV)) (z : Int) (M : Mem), decode cX12_loose pc = .ok (.ireturn, 1) → Q z M → rG p l e R s m args below meth c cells slots Qs D aC ad 7 pc L [vI z] M) (hw : w_m_loose M x1 x2 x3 x4 Q) : rG p l e R s m args below meth c cells slots Qs D aC ad 7 0 [(0, vR 12), (1, vI x1), (2, vI x2), (3, vI x3), (4, vI x4)] [] M := by
  unfold w_m_loose at hw
  refine r_aload_n hC dX12_loose_0 rfl rfl ?_
  refine r_iload_n hC dX12_loose_1 rfl rfl ?_
  refine r_iload_n hC dX12_loose_2 rfl rfl ?_
  refine r_callV hC (d_m_isLayer hw) rfl kC12_isLayer km12_186 kI12_isLayer kS12_isLayer kN12 dd_12_isLayer ⟨Nat.le_of_ble_eq_true rfl, Nat.le_of_ble_eq_true rfl⟩ rfl (Nat.le_of_ble_eq_true rfl) dX12_loose_3 (fun r M' hp => ?_)
  obtain ⟨rfl, a1, rfl, hw⟩ := hp
  try dsimp only at hw
  obtain ⟨o2, hw⟩ := hw
  obtain ⟨hwt, hwf⟩ := hw
  refine r_if_ne hC 13 dX12_loose_6 (by decide) o2.1 o2.2 (fun c4 => ?_) (fun c4 => ?_)
  · have hw := hwt c4
    refine r_iload_n hC dX12_loose_13 rfl rfl ?_
    obtain ⟨o5, hw⟩ := hw
    refine r_i2l hC dX12_loose_14 o5.1 o5.2 ?_
    refine r_lconst hC 0 dX12_loose_15 (by decide) ?_
    refine r_ldc2 hC (100) dX12_loose_16 kL12_184 (by decide) ?_
    refine r_callS hC (d_m_in hw) kC12_in km12_165 kT12_in kN12 dd_12_in ⟨Nat.le_of_ble_eq_true rfl, Nat.le_of_ble_eq_true rfl⟩ rfl (Nat.le_of_ble_eq_true rfl) dX12_loose_19 (fun r M' hp => ?_)
    obtain ⟨rfl, a6, rfl, hw⟩ := hp
    try dsimp only at hw
    obtain ⟨o7, hw⟩ := hw
    obtain ⟨hwt, hwf⟩ := hw
    refine r_if_eq hC 38 dX12_loose_22 (by decide) o7.1 o7.2 (fun c9 => ?_) (fun c9 => ?_)
    · have hw := hwt c9
      refine r_sipush hC dX12_loose_38 (by decide) ?_
      exact hQ _ _ _ _ dX12_loose_41 hw
    · have hw := hwf c9
      refine r_iload hC dX12_loose_25 rfl ?_
      obtain ⟨o10, hw⟩ := hw
      refine r_i2l hC dX12_loose_27 o10.1 o10.2 ?_
      refine r_lconst hC 1 dX12_loose_28 (by decide) ?_
      refine r_ldc2 hC (9) dX12_loose_29 kL12_190 (by decide) ?_
      refine r_callS hC (d_m_in hw) kC12_in km12_165 kT12_in kN12 dd_12_in ⟨Nat.le_of_ble_eq_true rfl, Nat.le_of_ble_eq_true rfl⟩ rfl (Nat.le_of_ble_eq_true rfl) dX12_loose_32 (fun r M' hp => ?_)
      obtain ⟨rfl, a11, rfl, hw⟩ := hp
      try dsimp only at hw
      obtain ⟨o12, hw⟩ := hw
      obtain ⟨hwt, hwf⟩ := hw
      refine r_if_ne hC 42 dX12_loose_35 (by decide) o12.1 o12.2 (fun c14 => ?_) (fun c14 => ?_)
      · have hw := hwt c14
        refine r_bipush hC dX12_loose_42 (by decide) ?_
        refine r_iload_n hC dX12_loose_44 rfl rfl ?_
        refine r_imul hC dX12_loose_45 ?_
        refine r_iload_n hC dX12_loose_46 rfl rfl ?_
        refine r_iadd hC dX12_loose_47 ?_
        refine r_istore hC dX12_loose_48 (by decide) ?_
        refine r_iconst hC dX12_loose_50 ?_
        refine r_istore hC dX12_loose_51 (by decide) ?_
        exact r_subk (s_m_loose_L0 hC hQ hw) ⟨rfl, rfl, rfl, rfl, rfl, trivial⟩
      · have hw := hwf c14
        refine r_sipush hC dX12_loose_38 (by decide) ?_
        exact hQ _ _ _ _ dX12_loose_41 hw
  · have hw := hwf c4
    refine r_sipush hC dX12_loose_9 (by decide) ?_
    exact hQ _ _ _ _ dX12_loose_12 hw
set_option maxRecDepth 100000 in
set_option maxHeartbeats 4000000 in
theorem d_m_loose {l : Launch} {D : va_G} {aC : Nat → ClassId} {ad : Nat → Nat} {M : Mem} {x1 : Int} {x2 : Int} {x3 : Int} {x4 : Int} {Q : Int → Mem → Prop} (hw : w_m_loose M x1 x2 x3 x4 Q) : Does l D aC ad yX12_loose cX12_loose 7 (some .int) 3 67 [vR 12, vI x1, vI x2, vI x3, vI x4] M (pI Q) :=
  Does.of (by decide) (Nat.le_of_ble_eq_true rfl) (fun p e R s m args below meth c hC => r_subk (s_m_loose hC (fun pc L z M d h => r_iret hC d ⟨z, rfl, h⟩) hw) ⟨rfl, rfl, rfl, rfl, rfl, trivial⟩)
/-- SoupSandModel.depth -/
def w_m_depth_B0 (Q : Int → Prop) (x1 : Int) (x2 : Int) (M : Mem) (X5 : Int → Int → Prop) (x3 : Int) (x4 : Int) : Prop :=
  (-2147483648 ≤ x4 ∧ x4 ≤ 2147483647) ∧ ((-2147483648 ≤ x2 ∧ x2 ≤ 2147483647) ∧ ((x2 ≤ x4 → Q x3) ∧ (¬ (x2 ≤ x4) → (0 ≤ (6 * x1) + x4 ∧ (6 * x1) + x4 < 36) ∧ (∀ a5 : Int, a5 = M 57 ((6 * x1) + x4) → 0 ≤ a5 → a5 ≤ 60 → X5 (x3 + a5) (x4 + 1)))))
set_option maxRecDepth 100000 in
set_option maxHeartbeats 4000000 in
theorem s_m_depth_B0 {Q : Int → Prop} {x1 : Int} {x2 : Int} {M : Mem} {X5 : Int → Int → Prop} {x3 : Int} {x4 : Int} (hC : rC p R s m args meth c cells slots D aC ad 5 cX12_depth RX12 0 0 (some .int)) (hQ : ∀ (pc : Nat) (L : List (Nat × RV)) (z : Int), decode cX12_depth pc = .ok (.ireturn, 1) → Q z → rG p l e R s m args below meth c cells slots Qs D aC ad 5 pc L [vI z] M) (hX5 : ∀ (x3 : Int) (x4 : Int), X5 x3 x4 → rG p l e R s m args below meth c cells slots Qs D aC ad 5 5 [(0, vR 12), (1, vI x1), (2, vI x2), (3, vI x3), (4, vI x4)] [] M) (hw : w_m_depth_B0 Q x1 x2 M X5 x3 x4) : rG p l e R s m args below meth c cells slots Qs D aC ad 5 5 [(0, vR 12), (1, vI x1), (2, vI x2), (3, vI x3), (4, vI x4)] [] M := by
  unfold w_m_depth_B0 at hw
  refine r_iload hC dX12_depth_5 rfl ?_
  refine r_iload_n hC dX12_depth_7 rfl rfl ?_
  obtain ⟨o1, hw⟩ := hw
  obtain ⟨o2, hw⟩ := hw
  obtain ⟨hwt, hwf⟩ := hw
  refine r_icmp_ge hC 32 dX12_depth_8 (by decide) o1.1 o1.2 o2.1 o2.2 (fun c3 => ?_) (fun c3 => ?_)
  · have hw := hwt c3
    refine r_iload_n hC dX12_depth_32 rfl rfl ?_
    exact hQ _ _ _ dX12_depth_33 hw
  · have hw := hwf c3
    refine r_iload_n hC dX12_depth_11 rfl rfl ?_
    refine r_aload_n hC dX12_depth_12 rfl rfl ?_
    refine r_getR hC 4 rfl (by decide) kf12_22 rfl rfl dX12_depth_13 ?_
    refine r_bipush hC dX12_depth_16 (by decide) ?_
    refine r_iload_n hC dX12_depth_18 rfl rfl ?_
    refine r_imul hC dX12_depth_19 ?_
    refine r_iload hC dX12_depth_20 rfl ?_
    refine r_iadd hC dX12_depth_22 ?_
    obtain ⟨o4, hw⟩ := hw
    refine r_iald hC rfl o4.1 o4.2 (by decide) (by decide) dX12_depth_23 (fun b6 b6' => ?_)
    replace hw := hw _ rfl b6 b6'
    refine r_iadd hC dX12_depth_24 ?_
    refine r_istore_n hC dX12_depth_25 rfl (by decide) ?_
    refine r_iinc hC dX12_depth_26 rfl (by decide) ?_
    refine r_goto hC 5 dX12_depth_29 (by decide) ?_
    exact r_subk (hX5 _ _ hw) ⟨rfl, rfl, rfl, rfl, rfl, trivial⟩
def w_m_depth_L0 (Q : Int → Prop) (x1 : Int) (x2 : Int) (M : Mem) (x3 : Int) (x4 : Int) : Prop :=
  ∀ X : Int → Int → Prop, (∀ (x3 : Int) (x4 : Int), w_m_depth_B0 Q x1 x2 M X x3 x4 → X x3 x4) → X x3 x4
set_option maxRecDepth 100000 in
set_option maxHeartbeats 4000000 in
theorem s_m_depth_L0 {Q : Int → Prop} {x1 : Int} {x2 : Int} {M : Mem} {x3 : Int} {x4 : Int} (hC : rC p R s m args meth c cells slots D aC ad 5 cX12_depth RX12 0 0 (some .int)) (hQ : ∀ (pc : Nat) (L : List (Nat × RV)) (z : Int), decode cX12_depth pc = .ok (.ireturn, 1) → Q z → rG p l e R s m args below meth c cells slots Qs D aC ad 5 pc L [vI z] M) (hw : w_m_depth_L0 Q x1 x2 M x3 x4) : rG p l e R s m args below meth c cells slots Qs D aC ad 5 5 [(0, vR 12), (1, vI x1), (2, vI x2), (3, vI x3), (4, vI x4)] [] M := by
  unfold w_m_depth_L0 at hw
  exact hw (fun x3 x4 => rG p l e R s m args below meth c cells slots Qs D aC ad 5 5 [(0, vR 12), (1, vI x1), (2, vI x2), (3, vI x3), (4, vI x4)] [] M) (fun x3 x4 hb => s_m_depth_B0 hC hQ (fun _ _ h => h) hb)
def w_m_depth (M : Mem) (x1 : Int) (x2 : Int) (Q : Int → Prop) : Prop :=
  w_m_depth_L0 Q x1 x2 M 0 0
set_option maxRecDepth 100000 in
set_option maxHeartbeats 4000000 in
theorem s_m_depth {M : Mem} {x1 : Int} {x2 : Int} {Q : Int → Prop} (hC : rC p R s m args meth c cells slots D aC ad 5 cX12_depth RX12 0 0 (some .int)) (hQ : ∀ (pc : Nat) (L : List (Nat × RV)) (z : Int), decode cX12_depth pc = .ok (.ireturn, 1) → Q z → rG p l e R s m args below meth c cells slots Qs D aC ad 5 pc L [vI z] M) (hw : w_m_depth M x1 x2 Q) : rG p l e R s m args below meth c cells slots Qs D aC ad 5 0 [(0, vR 12), (1, vI x1), (2, vI x2)] [] M := by
  unfold w_m_depth at hw
  refine r_iconst hC dX12_depth_0 ?_
  refine r_istore_n hC dX12_depth_1 rfl (by decide) ?_
  refine r_iconst hC dX12_depth_2 ?_
  refine r_istore hC dX12_depth_3 (by decide) ?_
  exact r_subk (s_m_depth_L0 hC hQ hw) ⟨rfl, rfl, rfl, rfl, rfl, trivial⟩
set_option maxRecDepth 100000 in
set_option maxHeartbeats 4000000 in
theorem d_m_depth {l : Launch} {D : va_G} {aC : Nat → ClassId} {ad : Nat → Nat} {M : Mem} {x1 : Int} {x2 : Int} {Q : Int → Prop} (hw : w_m_depth M x1 x2 Q) : Does l D aC ad yX12_depth cX12_depth 5 (some .int) 0 0 [vR 12, vI x1, vI x2] M (qI M Q) :=
  Does.of (by decide) (Nat.le_of_ble_eq_true rfl) (fun p e R s m args below meth c hC => r_subk (s_m_depth hC (fun pc L z d h => r_iret hC d ⟨rfl, ⟨z, rfl, h⟩⟩) hw) ⟨rfl, rfl, rfl, trivial⟩)
theorem dd_12_depth : yX12_depth.cls ≠ "java/lang/invoke/MethodHandle" ∧ yX12_depth.cls ≠ "java/lang/invoke/VarHandle" ∧ (parseMethodDescriptor yX12_depth.desc).map (fun d => d.parameters.length) = some 2 := by decide +kernel
/-- SoupSandModel.isWet -/
def w_m_isWet (M : Mem) (x1 : Int) (x2 : Int) (Q : Int → Prop) : Prop :=
  w_m_depth M x1 x2 (fun a1 => (0 ≤ x1 ∧ x1 < 6) ∧ (∀ a3 : Int, a3 = M 54 x1 → 0 ≤ a3 → a3 ≤ 400 → (-2147483648 ≤ a1 ∧ a1 ≤ 2147483647) ∧ ((a1 < a3 → Q 0) ∧ (¬ (a1 < a3) → Q 1))))
set_option maxRecDepth 100000 in
set_option maxHeartbeats 4000000 in
theorem s_m_isWet {M : Mem} {x1 : Int} {x2 : Int} {Q : Int → Prop} (hC : rC p R s m args meth c cells slots D aC ad 3 cX12_isWet RX12 1 24 (some .boolean)) (hQ : ∀ (pc : Nat) (L : List (Nat × RV)) (z : Int), decode cX12_isWet pc = .ok (.ireturn, 1) → 0 ≤ z → z ≤ 1 → Q z → rG p l e R s m args below meth c cells slots Qs D aC ad 3 pc L [vI z] M) (hw : w_m_isWet M x1 x2 Q) : rG p l e R s m args below meth c cells slots Qs D aC ad 3 0 [(0, vR 12), (1, vI x1), (2, vI x2)] [] M := by
  unfold w_m_isWet at hw
  refine r_aload_n hC dX12_isWet_0 rfl rfl ?_
  refine r_iload_n hC dX12_isWet_1 rfl rfl ?_
  refine r_iload_n hC dX12_isWet_2 rfl rfl ?_
  refine r_callV hC (d_m_depth hw) rfl kC12_depth km12_192 kI12_depth kS12_depth kN12 dd_12_depth ⟨Nat.le_of_ble_eq_true rfl, Nat.le_of_ble_eq_true rfl⟩ rfl (Nat.le_of_ble_eq_true rfl) dX12_isWet_3 (fun r M' hp => ?_)
  obtain ⟨rfl, a1, rfl, hw⟩ := hp
  try dsimp only at hw
  refine r_aload_n hC dX12_isWet_6 rfl rfl ?_
  refine r_getR hC 1 rfl (by decide) kf12_13 rfl rfl dX12_isWet_7 ?_
  refine r_iload_n hC dX12_isWet_10 rfl rfl ?_
  obtain ⟨o2, hw⟩ := hw
  refine r_iald hC rfl o2.1 o2.2 (by decide) (by decide) dX12_isWet_11 (fun b4 b4' => ?_)
  replace hw := hw _ rfl b4 b4'
  obtain ⟨o5, hw⟩ := hw
  obtain ⟨hwt, hwf⟩ := hw
  refine r_icmp_lt hC 19 dX12_isWet_12 (by decide) o5.1 o5.2 (by omega) (by omega) (fun c7 => ?_) (fun c7 => ?_)
  · have hw := hwt c7
    refine r_iconst hC dX12_isWet_19 ?_
    exact hQ _ _ _ dX12_isWet_20 (by decide) (by decide) hw
  · have hw := hwf c7
    refine r_iconst hC dX12_isWet_15 ?_
    refine r_goto hC 20 dX12_isWet_16 (by decide) ?_
    exact hQ _ _ _ dX12_isWet_20 (by decide) (by decide) hw
set_option maxRecDepth 100000 in
set_option maxHeartbeats 4000000 in
theorem d_m_isWet {l : Launch} {D : va_G} {aC : Nat → ClassId} {ad : Nat → Nat} {M : Mem} {x1 : Int} {x2 : Int} {Q : Int → Prop} (hw : w_m_isWet M x1 x2 Q) : Does l D aC ad yX12_isWet cX12_isWet 3 (some .boolean) 1 24 [vR 12, vI x1, vI x2] M (qI M Q) :=
  Does.of (by decide) (Nat.le_of_ble_eq_true rfl) (fun p e R s m args below meth c hC => r_subk (s_m_isWet hC (fun pc L z d z1 z2 h => r_zret hC d z1 z2 ⟨rfl, ⟨z, rfl, h⟩⟩) hw) ⟨rfl, rfl, rfl, trivial⟩)
theorem dd_12_isWet : yX12_isWet.cls ≠ "java/lang/invoke/MethodHandle" ∧ yX12_isWet.cls ≠ "java/lang/invoke/VarHandle" ∧ (parseMethodDescriptor yX12_isWet.desc).map (fun d => d.parameters.length) = some 2 := by decide +kernel
/-- SoupSandModel.heavy -/
def w_m_heavy (M : Mem) (x1 : Int) (x2 : Int) (Q : Int → Prop) : Prop :=
  w_m_isWet M x1 x2 (fun a1 => (-2147483648 ≤ a1 ∧ a1 ≤ 2147483647) ∧ ((a1 = 0 → ∀ a6 : Int, a6 = M 64 20 → 0 ≤ a6 → a6 ≤ 999 → Q a6) ∧ (¬ (a1 = 0) → ∀ a9 : Int, a9 = M 64 21 → 0 ≤ a9 → a9 ≤ 999 → Q a9)))
set_option maxRecDepth 100000 in
set_option maxHeartbeats 4000000 in
theorem s_m_heavy {M : Mem} {x1 : Int} {x2 : Int} {Q : Int → Prop} (hC : rC p R s m args meth c cells slots D aC ad 3 cX12_heavy RX12 2 46 (some .int)) (hQ : ∀ (pc : Nat) (L : List (Nat × RV)) (z : Int), decode cX12_heavy pc = .ok (.ireturn, 1) → Q z → rG p l e R s m args below meth c cells slots Qs D aC ad 3 pc L [vI z] M) (hw : w_m_heavy M x1 x2 Q) : rG p l e R s m args below meth c cells slots Qs D aC ad 3 0 [(0, vR 12), (1, vI x1), (2, vI x2)] [] M := by
  unfold w_m_heavy at hw
  refine r_aload_n hC dX12_heavy_0 rfl rfl ?_
  refine r_iload_n hC dX12_heavy_1 rfl rfl ?_
  refine r_iload_n hC dX12_heavy_2 rfl rfl ?_
  refine r_callV hC (d_m_isWet hw) rfl kC12_isWet km12_196 kI12_isWet kS12_isWet kN12 dd_12_isWet ⟨Nat.le_of_ble_eq_true rfl, Nat.le_of_ble_eq_true rfl⟩ rfl (Nat.le_of_ble_eq_true rfl) dX12_heavy_3 (fun r M' hp => ?_)
  obtain ⟨rfl, a1, rfl, hw⟩ := hp
  try dsimp only at hw
  obtain ⟨o2, hw⟩ := hw
  obtain ⟨hwt, hwf⟩ := hw
  refine r_if_eq hC 19 dX12_heavy_6 (by decide) o2.1 o2.2 (fun c4 => ?_) (fun c4 => ?_)
  · have hw := hwt c4
    refine r_aload_n hC dX12_heavy_19 rfl rfl ?_
    refine r_getR hC 12 rfl (by decide) kf12_43 rfl rfl dX12_heavy_20 ?_
    refine r_bipush hC dX12_heavy_23 (by decide) ?_
    refine r_iald hC rfl (by decide) (by decide) (by decide) (by decide) dX12_heavy_25 (fun b7 b7' => ?_)
    replace hw := hw _ rfl b7 b7'
    exact hQ _ _ _ dX12_heavy_26 hw
  · have hw := hwf c4
    refine r_aload_n hC dX12_heavy_9 rfl rfl ?_
    refine r_getR hC 12 rfl (by decide) kf12_43 rfl rfl dX12_heavy_10 ?_
    refine r_bipush hC dX12_heavy_13 (by decide) ?_
    refine r_iald hC rfl (by decide) (by decide) (by decide) (by decide) dX12_heavy_15 (fun b10 b10' => ?_)
    replace hw := hw _ rfl b10 b10'
    refine r_goto hC 26 dX12_heavy_16 (by decide) ?_
    exact hQ _ _ _ dX12_heavy_26 hw
set_option maxRecDepth 100000 in
set_option maxHeartbeats 4000000 in
theorem d_m_heavy {l : Launch} {D : va_G} {aC : Nat → ClassId} {ad : Nat → Nat} {M : Mem} {x1 : Int} {x2 : Int} {Q : Int → Prop} (hw : w_m_heavy M x1 x2 Q) : Does l D aC ad yX12_heavy cX12_heavy 3 (some .int) 2 46 [vR 12, vI x1, vI x2] M (qI M Q) :=
  Does.of (by decide) (Nat.le_of_ble_eq_true rfl) (fun p e R s m args below meth c hC => r_subk (s_m_heavy hC (fun pc L z d h => r_iret hC d ⟨rfl, ⟨z, rfl, h⟩⟩) hw) ⟨rfl, rfl, rfl, trivial⟩)
theorem dd_12_heavy : yX12_heavy.cls ≠ "java/lang/invoke/MethodHandle" ∧ yX12_heavy.cls ≠ "java/lang/invoke/VarHandle" ∧ (parseMethodDescriptor yX12_heavy.desc).map (fun d => d.parameters.length) = some 2 := by decide +kernel
/-- SoupSandModel.hold -/
def w_m_hold_B0 (Q : Int → Prop) (x1 : Int) (x2 : Int) (M : Mem) (X24 : Int → Int → Prop) (x3 : Int) (x4 : Int) : Prop :=
  (-2147483648 ≤ x4 ∧ x4 ≤ 2147483647) ∧ ((-2147483648 ≤ x2 ∧ x2 ≤ 2147483647) ∧ ((x2 ≤ x4 → (-2147483648 ≤ x3 ∧ x3 ≤ 2147483647) ∧ ((1 ≤ x3 → Q x3) ∧ (¬ (1 ≤ x3) → Q 1))) ∧ (¬ (x2 ≤ x4) → (0 ≤ (6 * x1) + x4 ∧ (6 * x1) + x4 < 36) ∧ (∀ a8 : Int, a8 = M 57 ((6 * x1) + x4) → 0 ≤ a8 → a8 ≤ 60 → w_m_heavy M x1 x4 (fun a10 => X24 (x3 + (a8 * a10)) (x4 + 1))))))
set_option maxRecDepth 100000 in
set_option maxHeartbeats 4000000 in
theorem s_m_hold_B0 {Q : Int → Prop} {x1 : Int} {x2 : Int} {M : Mem} {X24 : Int → Int → Prop} {x3 : Int} {x4 : Int} (hC : rC p R s m args meth c cells slots D aC ad 5 cX12_hold RX12 3 68 (some .int)) (hQ : ∀ (pc : Nat) (L : List (Nat × RV)) (z : Int), decode cX12_hold pc = .ok (.ireturn, 1) → Q z → rG p l e R s m args below meth c cells slots Qs D aC ad 5 pc L [vI z] M) (hX24 : ∀ (x3 : Int) (x4 : Int), X24 x3 x4 → rG p l e R s m args below meth c cells slots Qs D aC ad 5 24 [(0, vR 12), (1, vI x1), (2, vI x2), (3, vI x3), (4, vI x4)] [] M) (hw : w_m_hold_B0 Q x1 x2 M X24 x3 x4) : rG p l e R s m args below meth c cells slots Qs D aC ad 5 24 [(0, vR 12), (1, vI x1), (2, vI x2), (3, vI x3), (4, vI x4)] [] M := by
  unfold w_m_hold_B0 at hw
  refine r_iload hC dX12_hold_24 rfl ?_
  refine r_iload_n hC dX12_hold_26 rfl rfl ?_
  obtain ⟨o1, hw⟩ := hw
  obtain ⟨o2, hw⟩ := hw
  obtain ⟨hwt, hwf⟩ := hw
  refine r_icmp_ge hC 59 dX12_hold_27 (by decide) o1.1 o1.2 o2.1 o2.2 (fun c3 => ?_) (fun c3 => ?_)
  · have hw := hwt c3
    refine r_iload_n hC dX12_hold_59 rfl rfl ?_
    refine r_iconst hC dX12_hold_60 ?_
    obtain ⟨o4, hw⟩ := hw
    obtain ⟨hwt, hwf⟩ := hw
    refine r_icmp_ge hC 68 dX12_hold_61 (by decide) o4.1 o4.2 (by decide) (by decide) (fun c6 => ?_) (fun c6 => ?_)
    · have hw := hwt c6
      refine r_iload_n hC dX12_hold_68 rfl rfl ?_
      exact hQ _ _ _ dX12_hold_69 hw
    · have hw := hwf c6
      refine r_iconst hC dX12_hold_64 ?_
      refine r_goto hC 69 dX12_hold_65 (by decide) ?_
      exact hQ _ _ _ dX12_hold_69 hw
  · have hw := hwf c3
    refine r_iload_n hC dX12_hold_30 rfl rfl ?_
    refine r_aload_n hC dX12_hold_31 rfl rfl ?_
    refine r_getR hC 4 rfl (by decide) kf12_22 rfl rfl dX12_hold_32 ?_
    refine r_bipush hC dX12_hold_35 (by decide) ?_
    refine r_iload_n hC dX12_hold_37 rfl rfl ?_
    refine r_imul hC dX12_hold_38 ?_
    refine r_iload hC dX12_hold_39 rfl ?_
    refine r_iadd hC dX12_hold_41 ?_
    obtain ⟨o7, hw⟩ := hw
    refine r_iald hC rfl o7.1 o7.2 (by decide) (by decide) dX12_hold_42 (fun b9 b9' => ?_)
    replace hw := hw _ rfl b9 b9'
    refine r_aload_n hC dX12_hold_43 rfl rfl ?_
    refine r_iload_n hC dX12_hold_44 rfl rfl ?_
    refine r_iload hC dX12_hold_45 rfl ?_
    refine r_callV hC (d_m_heavy hw) rfl kC12_heavy km12_199 kI12_heavy kS12_heavy kN12 dd_12_heavy ⟨Nat.le_of_ble_eq_true rfl, Nat.le_of_ble_eq_true rfl⟩ rfl (Nat.le_of_ble_eq_true rfl) dX12_hold_47 (fun r M' hp => ?_)
    obtain ⟨rfl, a10, rfl, hw⟩ := hp
    try dsimp only at hw
    refine r_imul hC dX12_hold_50 ?_
    refine r_iadd hC dX12_hold_51 ?_
    refine r_istore_n hC dX12_hold_52 rfl (by decide) ?_
    refine r_iinc hC dX12_hold_53 rfl (by decide) ?_
    refine r_goto hC 24 dX12_hold_56 (by decide) ?_
    exact r_subk (hX24 _ _ hw) ⟨rfl, rfl, rfl, rfl, rfl, trivial⟩
def w_m_hold_L0 (Q : Int → Prop) (x1 : Int) (x2 : Int) (M : Mem) (x3 : Int) (x4 : Int) : Prop :=
  ∀ X : Int → Int → Prop, (∀ (x3 : Int) (x4 : Int), w_m_hold_B0 Q x1 x2 M X x3 x4 → X x3 x4) → X x3 x4
set_option maxRecDepth 100000 in
set_option maxHeartbeats 4000000 in
theorem s_m_hold_L0 {Q : Int → Prop} {x1 : Int} {x2 : Int} {M : Mem} {x3 : Int} {x4 : Int} (hC : rC p R s m args meth c cells slots D aC ad 5 cX12_hold RX12 3 68 (some .int)) (hQ : ∀ (pc : Nat) (L : List (Nat × RV)) (z : Int), decode cX12_hold pc = .ok (.ireturn, 1) → Q z → rG p l e R s m args below meth c cells slots Qs D aC ad 5 pc L [vI z] M) (hw : w_m_hold_L0 Q x1 x2 M x3 x4) : rG p l e R s m args below meth c cells slots Qs D aC ad 5 24 [(0, vR 12), (1, vI x1), (2, vI x2), (3, vI x3), (4, vI x4)] [] M := by
  unfold w_m_hold_L0 at hw
  exact hw (fun x3 x4 => rG p l e R s m args below meth c cells slots Qs D aC ad 5 24 [(0, vR 12), (1, vI x1), (2, vI x2), (3, vI x3), (4, vI x4)] [] M) (fun x3 x4 hb => s_m_hold_B0 hC hQ (fun _ _ h => h) hb)
def w_m_hold (M : Mem) (x1 : Int) (x2 : Int) (Q : Int → Prop) : Prop :=
  (0 ≤ (6 * x1) + x2 ∧ (6 * x1) + x2 < 36) ∧ (∀ a2 : Int, a2 = M 57 ((6 * x1) + x2) → 0 ≤ a2 → a2 ≤ 60 → w_m_heavy M x1 x2 (fun a4 => (0 ≤ a2 * a4 ∧ a2 * a4 ≤ 2147483647) ∧ (w_m_hold_L0 Q x1 x2 M ((a2 * a4) / 2) 0)))
set_option maxRecDepth 100000 in
set_option maxHeartbeats 4000000 in
theorem s_m_hold {M : Mem} {x1 : Int} {x2 : Int} {Q : Int → Prop} (hC : rC p R s m args meth c cells slots D aC ad 5 cX12_hold RX12 3 68 (some .int)) (hQ : ∀ (pc : Nat) (L : List (Nat × RV)) (z : Int), decode cX12_hold pc = .ok (.ireturn, 1) → Q z → rG p l e R s m args below meth c cells slots Qs D aC ad 5 pc L [vI z] M) (hw : w_m_hold M x1 x2 Q) : rG p l e R s m args below meth c cells slots Qs D aC ad 5 0 [(0, vR 12), (1, vI x1), (2, vI x2)] [] M := by
  unfold w_m_hold at hw
  refine r_aload_n hC dX12_hold_0 rfl rfl ?_
  refine r_getR hC 4 rfl (by decide) kf12_22 rfl rfl dX12_hold_1 ?_
  refine r_bipush hC dX12_hold_4 (by decide) ?_
  refine r_iload_n hC dX12_hold_6 rfl rfl ?_
  refine r_imul hC dX12_hold_7 ?_
  refine r_iload_n hC dX12_hold_8 rfl rfl ?_
  refine r_iadd hC dX12_hold_9 ?_
  obtain ⟨o1, hw⟩ := hw
  refine r_iald hC rfl o1.1 o1.2 (by decide) (by decide) dX12_hold_10 (fun b3 b3' => ?_)
  replace hw := hw _ rfl b3 b3'
  refine r_aload_n hC dX12_hold_11 rfl rfl ?_
  refine r_iload_n hC dX12_hold_12 rfl rfl ?_
  refine r_iload_n hC dX12_hold_13 rfl rfl ?_
  refine r_callV hC (d_m_heavy hw) rfl kC12_heavy km12_199 kI12_heavy kS12_heavy kN12 dd_12_heavy ⟨Nat.le_of_ble_eq_true rfl, Nat.le_of_ble_eq_true rfl⟩ rfl (Nat.le_of_ble_eq_true rfl) dX12_hold_14 (fun r M' hp => ?_)
  obtain ⟨rfl, a4, rfl, hw⟩ := hp
  try dsimp only at hw
  refine r_imul hC dX12_hold_17 ?_
  refine r_iconst hC dX12_hold_18 ?_
  obtain ⟨o5, hw⟩ := hw
  refine r_idiv hC dX12_hold_19 o5.1 o5.2 (by decide) (by decide) ?_
  refine r_istore_n hC dX12_hold_20 rfl (by decide) ?_
  refine r_iconst hC dX12_hold_21 ?_
  refine r_istore hC dX12_hold_22 (by decide) ?_
  exact r_subk (s_m_hold_L0 hC hQ hw) ⟨rfl, rfl, rfl, rfl, rfl, trivial⟩
set_option maxRecDepth 100000 in
set_option maxHeartbeats 4000000 in
theorem d_m_hold {l : Launch} {D : va_G} {aC : Nat → ClassId} {ad : Nat → Nat} {M : Mem} {x1 : Int} {x2 : Int} {Q : Int → Prop} (hw : w_m_hold M x1 x2 Q) : Does l D aC ad yX12_hold cX12_hold 5 (some .int) 3 68 [vR 12, vI x1, vI x2] M (qI M Q) :=
  Does.of (by decide) (Nat.le_of_ble_eq_true rfl) (fun p e R s m args below meth c hC => r_subk (s_m_hold hC (fun pc L z d h => r_iret hC d ⟨rfl, ⟨z, rfl, h⟩⟩) hw) ⟨rfl, rfl, rfl, trivial⟩)
theorem dd_12_hold : yX12_hold.cls ≠ "java/lang/invoke/MethodHandle" ∧ yX12_hold.cls ≠ "java/lang/invoke/VarHandle" ∧ (parseMethodDescriptor yX12_hold.desc).map (fun d => d.parameters.length) = some 2 := by decide +kernel
/-- SoupSandModel.about -/
def w_m_about (M : Mem) (x1 : Int) (x2 : Int) (x3 : Int) (Q : Int → Prop) : Prop :=
  w_m_isLayer M x1 x2 (fun a1 => (-2147483648 ≤ a1 ∧ a1 ≤ 2147483647) ∧ ((¬ (a1 = 0) → (-2147483648 ≤ x3 ∧ x3 ≤ 2147483647) ∧ (((x3 < 0 ∨ 5 < x3) → Q (-1002)) ∧ (x3 = 0 → (0 ≤ (6 * x1) + x2 ∧ (6 * x1) + x2 < 36) ∧ (∀ a8 : Int, a8 = M 56 ((6 * x1) + x2) → 0 ≤ a8 → a8 ≤ 3 → Q a8)) ∧ (x3 = 1 → (0 ≤ (6 * x1) + x2 ∧ (6 * x1) + x2 < 36) ∧ (∀ a11 : Int, a11 = M 57 ((6 * x1) + x2) → 0 ≤ a11 → a11 ≤ 60 → Q a11)) ∧ (x3 = 2 → (0 ≤ (6 * x1) + x2 ∧ (6 * x1) + x2 < 36) ∧ (∀ a14 : Int, a14 = M 58 ((6 * x1) + x2) → 0 ≤ a14 → a14 ≤ 3 → Q a14)) ∧ (x3 = 3 → w_m_depth M x1 x2 (fun a16 => Q a16)) ∧ (x3 = 4 → w_m_isWet M x1 x2 (fun a17 => (-2147483648 ≤ a17 ∧ a17 ≤ 2147483647) ∧ ((a17 = 0 → Q 0) ∧ (¬ (a17 = 0) → Q 1)))) ∧ (x3 = 5 → w_m_hold M x1 x2 (fun a21 => Q a21)))) ∧ (a1 = 0 → Q (-1001))))
set_option maxRecDepth 100000 in
set_option maxHeartbeats 4000000 in
theorem s_m_about {M : Mem} {x1 : Int} {x2 : Int} {x3 : Int} {Q : Int → Prop} (hC : rC p R s m args meth c cells slots D aC ad 4 cX12_about RX12 4 92 (some .int)) (hQ : ∀ (pc : Nat) (L : List (Nat × RV)) (z : Int), decode cX12_about pc = .ok (.ireturn, 1) → Q z → rG p l e R s m args below meth c cells slots Qs D aC ad 4 pc L [vI z] M) (hw : w_m_about M x1 x2 x3 Q) : rG p l e R s m args below meth c cells slots Qs D aC ad 4 0 [(0, vR 12), (1, vI x1), (2, vI x2), (3, vI x3)] [] M := by
  unfold w_m_about at hw
  refine r_aload_n hC dX12_about_0 rfl rfl ?_
  refine r_iload_n hC dX12_about_1 rfl rfl ?_
  refine r_iload_n hC dX12_about_2 rfl rfl ?_
  refine r_callV hC (d_m_isLayer hw) rfl kC12_isLayer km12_186 kI12_isLayer kS12_isLayer kN12 dd_12_isLayer ⟨Nat.le_of_ble_eq_true rfl, Nat.le_of_ble_eq_true rfl⟩ rfl (Nat.le_of_ble_eq_true rfl) dX12_about_3 (fun r M' hp => ?_)
  obtain ⟨rfl, a1, rfl, hw⟩ := hp
  try dsimp only at hw
  obtain ⟨o2, hw⟩ := hw
  obtain ⟨hwt, hwf⟩ := hw
  refine r_if_ne hC 13 dX12_about_6 (by decide) o2.1 o2.2 (fun c4 => ?_) (fun c4 => ?_)
  · have hw := hwt c4
    refine r_iload_n hC dX12_about_13 rfl rfl ?_
    obtain ⟨o5, hw⟩ := hw
    obtain ⟨hd, h0, h1, h2, h3, h4, h5⟩ := hw
    refine r_tsw hC dX12_about_14 o5.1 o5.2 117 (by decide) (fun c6 => ?_) (fun n hn hn2 => ?_)
    · have hw := hd c6
      refine r_sipush hC dX12_about_117 (by decide) ?_
      exact hQ _ _ _ dX12_about_120 hw
    · have hlt : n < 6 := by omega
      match n, hlt with
      | 0, _ =>
        refine ⟨_, 52, rfl, by decide, ?_⟩
        have hw := h0 (by omega)
        refine r_aload_n hC dX12_about_52 rfl rfl ?_
        refine r_getR hC 3 rfl (by decide) kf12_19 rfl rfl dX12_about_53 ?_
        refine r_bipush hC dX12_about_56 (by decide) ?_
        refine r_iload_n hC dX12_about_58 rfl rfl ?_
        refine r_imul hC dX12_about_59 ?_
        refine r_iload_n hC dX12_about_60 rfl rfl ?_
        refine r_iadd hC dX12_about_61 ?_
        obtain ⟨o7, hw⟩ := hw
        refine r_iald hC rfl o7.1 o7.2 (by decide) (by decide) dX12_about_62 (fun b9 b9' => ?_)
        replace hw := hw _ rfl b9 b9'
        exact hQ _ _ _ dX12_about_63 hw
      | 1, _ =>
        refine ⟨_, 64, rfl, by decide, ?_⟩
        have hw := h1 (by omega)
        refine r_aload_n hC dX12_about_64 rfl rfl ?_
        refine r_getR hC 4 rfl (by decide) kf12_22 rfl rfl dX12_about_65 ?_
        refine r_bipush hC dX12_about_68 (by decide) ?_
        refine r_iload_n hC dX12_about_70 rfl rfl ?_
        refine r_imul hC dX12_about_71 ?_
        refine r_iload_n hC dX12_about_72 rfl rfl ?_
        refine r_iadd hC dX12_about_73 ?_
        obtain ⟨o10, hw⟩ := hw
        refine r_iald hC rfl o10.1 o10.2 (by decide) (by decide) dX12_about_74 (fun b12 b12' => ?_)
        replace hw := hw _ rfl b12 b12'
        exact hQ _ _ _ dX12_about_75 hw
      | 2, _ =>
        refine ⟨_, 76, rfl, by decide, ?_⟩
        have hw := h2 (by omega)
        refine r_aload_n hC dX12_about_76 rfl rfl ?_
        refine r_getR hC 5 rfl (by decide) kf12_25 rfl rfl dX12_about_77 ?_
        refine r_bipush hC dX12_about_80 (by decide) ?_
        refine r_iload_n hC dX12_about_82 rfl rfl ?_
        refine r_imul hC dX12_about_83 ?_
        refine r_iload_n hC dX12_about_84 rfl rfl ?_
        refine r_iadd hC dX12_about_85 ?_
        obtain ⟨o13, hw⟩ := hw
        refine r_iald hC rfl o13.1 o13.2 (by decide) (by decide) dX12_about_86 (fun b15 b15' => ?_)
        replace hw := hw _ rfl b15 b15'
        exact hQ _ _ _ dX12_about_87 hw
      | 3, _ =>
        refine ⟨_, 88, rfl, by decide, ?_⟩
        have hw := h3 (by omega)
        refine r_aload_n hC dX12_about_88 rfl rfl ?_
        refine r_iload_n hC dX12_about_89 rfl rfl ?_
        refine r_iload_n hC dX12_about_90 rfl rfl ?_
        refine r_callV hC (d_m_depth hw) rfl kC12_depth km12_192 kI12_depth kS12_depth kN12 dd_12_depth ⟨Nat.le_of_ble_eq_true rfl, Nat.le_of_ble_eq_true rfl⟩ rfl (Nat.le_of_ble_eq_true rfl) dX12_about_91 (fun r M' hp => ?_)
        obtain ⟨rfl, a16, rfl, hw⟩ := hp
        try dsimp only at hw
        exact hQ _ _ _ dX12_about_94 hw
      | 4, _ =>
        refine ⟨_, 95, rfl, by decide, ?_⟩
        have hw := h4 (by omega)
        refine r_aload_n hC dX12_about_95 rfl rfl ?_
        refine r_iload_n hC dX12_about_96 rfl rfl ?_
        refine r_iload_n hC dX12_about_97 rfl rfl ?_
        refine r_callV hC (d_m_isWet hw) rfl kC12_isWet km12_196 kI12_isWet kS12_isWet kN12 dd_12_isWet ⟨Nat.le_of_ble_eq_true rfl, Nat.le_of_ble_eq_true rfl⟩ rfl (Nat.le_of_ble_eq_true rfl) dX12_about_98 (fun r M' hp => ?_)
        obtain ⟨rfl, a17, rfl, hw⟩ := hp
        try dsimp only at hw
        obtain ⟨o18, hw⟩ := hw
        obtain ⟨hwt, hwf⟩ := hw
        refine r_if_eq hC 108 dX12_about_101 (by decide) o18.1 o18.2 (fun c20 => ?_) (fun c20 => ?_)
        · have hw := hwt c20
          refine r_iconst hC dX12_about_108 ?_
          exact hQ _ _ _ dX12_about_109 hw
        · have hw := hwf c20
          refine r_iconst hC dX12_about_104 ?_
          refine r_goto hC 109 dX12_about_105 (by decide) ?_
          exact hQ _ _ _ dX12_about_109 hw
      | 5, _ =>
        refine ⟨_, 110, rfl, by decide, ?_⟩
        have hw := h5 (by omega)
        refine r_aload_n hC dX12_about_110 rfl rfl ?_
        refine r_iload_n hC dX12_about_111 rfl rfl ?_
        refine r_iload_n hC dX12_about_112 rfl rfl ?_
        refine r_callV hC (d_m_hold hw) rfl kC12_hold km12_202 kI12_hold kS12_hold kN12 dd_12_hold ⟨Nat.le_of_ble_eq_true rfl, Nat.le_of_ble_eq_true rfl⟩ rfl (Nat.le_of_ble_eq_true rfl) dX12_about_113 (fun r M' hp => ?_)
        obtain ⟨rfl, a21, rfl, hw⟩ := hp
        try dsimp only at hw
        exact hQ _ _ _ dX12_about_116 hw
      | n + 6, h => exact absurd h (by omega)
  · have hw := hwf c4
    refine r_sipush hC dX12_about_9 (by decide) ?_
    exact hQ _ _ _ dX12_about_12 hw
set_option maxRecDepth 100000 in
set_option maxHeartbeats 4000000 in
theorem d_m_about {l : Launch} {D : va_G} {aC : Nat → ClassId} {ad : Nat → Nat} {M : Mem} {x1 : Int} {x2 : Int} {x3 : Int} {Q : Int → Prop} (hw : w_m_about M x1 x2 x3 Q) : Does l D aC ad yX12_about cX12_about 4 (some .int) 4 92 [vR 12, vI x1, vI x2, vI x3] M (qI M Q) :=
  Does.of (by decide) (Nat.le_of_ble_eq_true rfl) (fun p e R s m args below meth c hC => r_subk (s_m_about hC (fun pc L z d h => r_iret hC d ⟨rfl, ⟨z, rfl, h⟩⟩) hw) ⟨rfl, rfl, rfl, rfl, trivial⟩)
/-- SoupSandModel.shake -/
def w_m_shake (M : Mem) (x1 : Int) (Q : Int → Mem → Prop) : Prop :=
  (-2147483648 ≤ x1 ∧ x1 ≤ 2147483647) ∧ (w_m_in M x1 0 1000 (fun a2 => (-2147483648 ≤ a2 ∧ a2 ≤ 2147483647) ∧ ((¬ (a2 = 0) → ∀ a6 : Int, a6 = M 12 8 → 0 ≤ a6 → a6 ≤ 6 → (¬ (a6 = 6) → ∀ a11 : Int, a11 = M 12 8 → 0 ≤ a11 → a11 ≤ 6 → ((0 ≤ a11 ∧ a11 < 6) ∧ (0 ≤ x1 ∧ x1 ≤ 1000)) ∧ (∀ M14 : Mem, M14 = mset M 61 a11 x1 → ∀ a15 : Int, a15 = M14 12 8 → 0 ≤ a15 → a15 ≤ 6 → (0 ≤ a15 + 1 ∧ a15 + 1 ≤ 6) ∧ (∀ M18 : Mem, M18 = mset M14 12 8 (a15 + 1) → ∀ a19 : Int, a19 = M18 12 8 → 0 ≤ a19 → a19 ≤ 6 → Q (a19 - 1) M18))) ∧ (a6 = 6 → Q (-1004) M)) ∧ (a2 = 0 → Q (-1002) M))))
set_option maxRecDepth 100000 in
set_option maxHeartbeats 4000000 in
theorem s_m_shake {M : Mem} {x1 : Int} {Q : Int → Mem → Prop} (hC : rC p R s m args meth c cells slots D aC ad 2 cX12_shake RX12 1 25 (some .int)) (hQ : ∀ (pc : Nat) (L : List (Nat × RV)) (z : Int) (M : Mem), decode cX12_shake pc = .ok (.ireturn, 1) → Q z M → rG p l e R s m args below meth c cells slots Qs D aC ad 2 pc L [vI z] M) (hw : w_m_shake M x1 Q) : rG p l e R s m args below meth c cells slots Qs D aC ad 2 0 [(0, vR 12), (1, vI x1)] [] M := by
  unfold w_m_shake at hw
  refine r_iload_n hC dX12_shake_0 rfl rfl ?_
  obtain ⟨o1, hw⟩ := hw
  refine r_i2l hC dX12_shake_1 o1.1 o1.2 ?_
  refine r_lconst hC 0 dX12_shake_2 (by decide) ?_
  refine r_ldc2 hC (1000) dX12_shake_3 kL12_205 (by decide) ?_
  refine r_callS hC (d_m_in hw) kC12_in km12_165 kT12_in kN12 dd_12_in ⟨Nat.le_of_ble_eq_true rfl, Nat.le_of_ble_eq_true rfl⟩ rfl (Nat.le_of_ble_eq_true rfl) dX12_shake_6 (fun r M' hp => ?_)
  obtain ⟨rfl, a2, rfl, hw⟩ := hp
  try dsimp only at hw
  obtain ⟨o3, hw⟩ := hw
  obtain ⟨hwt, hwf⟩ := hw
  refine r_if_ne hC 16 dX12_shake_9 (by decide) o3.1 o3.2 (fun c5 => ?_) (fun c5 => ?_)
  · have hw := hwt c5
    refine r_aload_n hC dX12_shake_16 rfl rfl ?_
    refine r_getI hC 8 rfl (by decide) kf12_173 rfl rfl dX12_shake_17 (fun b7 b7' => ?_)
    replace hw := hw _ rfl b7 b7'
    refine r_bipush hC dX12_shake_20 (by decide) ?_
    obtain ⟨hwt, hwf⟩ := hw
    refine r_icmp_ne hC 29 dX12_shake_22 (by decide) (by omega) (by omega) (by decide) (by decide) (fun c10 => ?_) (fun c10 => ?_)
    · have hw := hwt c10
      refine r_aload_n hC dX12_shake_29 rfl rfl ?_
      refine r_getR hC 9 rfl (by decide) kf12_34 rfl rfl dX12_shake_30 ?_
      refine r_aload_n hC dX12_shake_33 rfl rfl ?_
      refine r_getI hC 8 rfl (by decide) kf12_173 rfl rfl dX12_shake_34 (fun b12 b12' => ?_)
      replace hw := hw _ rfl b12 b12'
      refine r_iload_n hC dX12_shake_37 rfl rfl ?_
      obtain ⟨o13, hw⟩ := hw
      refine r_iast hC rfl o13.1.1 o13.1.2 (by decide) (by decide) o13.2.1 o13.2.2 dX12_shake_38 ?_
      replace hw := hw _ rfl
      refine r_aload_n hC dX12_shake_39 rfl rfl ?_
      refine r_dup hC dX12_shake_40 rfl ?_
      refine r_getI hC 8 rfl (by decide) kf12_173 rfl rfl dX12_shake_41 (fun b16 b16' => ?_)
      replace hw := hw _ rfl b16 b16'
      refine r_iconst hC dX12_shake_44 ?_
      refine r_iadd hC dX12_shake_45 ?_
      obtain ⟨o17, hw⟩ := hw
      refine r_putI hC 8 rfl (by decide) kf12_173 rfl rfl o17.1 o17.2 dX12_shake_46 ?_
      replace hw := hw _ rfl
      refine r_aload_n hC dX12_shake_49 rfl rfl ?_
      refine r_getI hC 8 rfl (by decide) kf12_173 rfl rfl dX12_shake_50 (fun b20 b20' => ?_)
      replace hw := hw _ rfl b20 b20'
      refine r_iconst hC dX12_shake_53 ?_
      refine r_isub hC dX12_shake_54 ?_
      exact hQ _ _ _ _ dX12_shake_55 hw
    · have hw := hwf c10
      refine r_sipush hC dX12_shake_25 (by decide) ?_
      exact hQ _ _ _ _ dX12_shake_28 hw
  · have hw := hwf c5
    refine r_sipush hC dX12_shake_12 (by decide) ?_
    exact hQ _ _ _ _ dX12_shake_15 hw
set_option maxRecDepth 100000 in
set_option maxHeartbeats 4000000 in
theorem d_m_shake {l : Launch} {D : va_G} {aC : Nat → ClassId} {ad : Nat → Nat} {M : Mem} {x1 : Int} {Q : Int → Mem → Prop} (hw : w_m_shake M x1 Q) : Does l D aC ad yX12_shake cX12_shake 2 (some .int) 1 25 [vR 12, vI x1] M (pI Q) :=
  Does.of (by decide) (Nat.le_of_ble_eq_true rfl) (fun p e R s m args below meth c hC => r_subk (s_m_shake hC (fun pc L z M d h => r_iret hC d ⟨z, rfl, h⟩) hw) ⟨rfl, rfl, trivial⟩)
/-- SoupSandModel.isShake -/
def w_m_isShake (M : Mem) (x1 : Int) (Q : Int → Prop) : Prop :=
  (-2147483648 ≤ x1 ∧ x1 ≤ 2147483647) ∧ (∀ a2 : Int, a2 = M 12 8 → 0 ≤ a2 → a2 ≤ 6 → w_m_in M x1 0 (a2 - 1) (fun a5 => (0 ≤ a5 ∧ a5 ≤ 1) ∧ (Q a5)))
set_option maxRecDepth 100000 in
set_option maxHeartbeats 4000000 in
theorem s_m_isShake {M : Mem} {x1 : Int} {Q : Int → Prop} (hC : rC p R s m args meth c cells slots D aC ad 2 cX12_isShake RX12 1 25 (some .boolean)) (hQ : ∀ (pc : Nat) (L : List (Nat × RV)) (z : Int), decode cX12_isShake pc = .ok (.ireturn, 1) → 0 ≤ z → z ≤ 1 → Q z → rG p l e R s m args below meth c cells slots Qs D aC ad 2 pc L [vI z] M) (hw : w_m_isShake M x1 Q) : rG p l e R s m args below meth c cells slots Qs D aC ad 2 0 [(0, vR 12), (1, vI x1)] [] M := by
  unfold w_m_isShake at hw
  refine r_iload_n hC dX12_isShake_0 rfl rfl ?_
  obtain ⟨o1, hw⟩ := hw
  refine r_i2l hC dX12_isShake_1 o1.1 o1.2 ?_
  refine r_lconst hC 0 dX12_isShake_2 (by decide) ?_
  refine r_aload_n hC dX12_isShake_3 rfl rfl ?_
  refine r_getI hC 8 rfl (by decide) kf12_173 rfl rfl dX12_isShake_4 (fun b3 b3' => ?_)
  replace hw := hw _ rfl b3 b3'
  refine r_iconst hC dX12_isShake_7 ?_
  refine r_isub hC dX12_isShake_8 ?_
  refine r_i2l hC dX12_isShake_9 (by omega) (by omega) ?_
  refine r_callS hC (d_m_in hw) kC12_in km12_165 kT12_in kN12 dd_12_in ⟨Nat.le_of_ble_eq_true rfl, Nat.le_of_ble_eq_true rfl⟩ rfl (Nat.le_of_ble_eq_true rfl) dX12_isShake_10 (fun r M' hp => ?_)
  obtain ⟨rfl, a5, rfl, hw⟩ := hp
  try dsimp only at hw
  obtain ⟨o6, hw⟩ := hw
  exact hQ _ _ _ dX12_isShake_13 o6.1 o6.2 hw
set_option maxRecDepth 100000 in
set_option maxHeartbeats 4000000 in
theorem d_m_isShake {l : Launch} {D : va_G} {aC : Nat → ClassId} {ad : Nat → Nat} {M : Mem} {x1 : Int} {Q : Int → Prop} (hw : w_m_isShake M x1 Q) : Does l D aC ad yX12_isShake cX12_isShake 2 (some .boolean) 1 25 [vR 12, vI x1] M (qI M Q) :=
  Does.of (by decide) (Nat.le_of_ble_eq_true rfl) (fun p e R s m args below meth c hC => r_subk (s_m_isShake hC (fun pc L z d z1 z2 h => r_zret hC d z1 z2 ⟨rfl, ⟨z, rfl, h⟩⟩) hw) ⟨rfl, rfl, trivial⟩)
theorem dd_12_isShake : yX12_isShake.cls ≠ "java/lang/invoke/MethodHandle" ∧ yX12_isShake.cls ≠ "java/lang/invoke/VarHandle" ∧ (parseMethodDescriptor yX12_isShake.desc).map (fun d => d.parameters.length) = some 1 := by decide +kernel
/-- SoupSandModel.beat -/
def w_m_beat (M : Mem) (x1 : Int) (x2 : Int) (Q : Int → Mem → Prop) : Prop :=
  w_m_isShake M x1 (fun a1 => (-2147483648 ≤ a1 ∧ a1 ≤ 2147483647) ∧ ((¬ (a1 = 0) → (-2147483648 ≤ x2 ∧ x2 ≤ 2147483647) ∧ (w_m_in M x2 0 999 (fun a6 => (-2147483648 ≤ a6 ∧ a6 ≤ 2147483647) ∧ ((¬ (a6 = 0) → (0 ≤ x1 ∧ x1 < 6) ∧ (∀ a11 : Int, a11 = M 62 x1 → 0 ≤ a11 → a11 ≤ 30 → (¬ (a11 = 30) → (0 ≤ x1 ∧ x1 < 6) ∧ (∀ a17 : Int, a17 = M 62 x1 → 0 ≤ a17 → a17 ≤ 30 → ((0 ≤ (30 * x1) + a17 ∧ (30 * x1) + a17 < 180) ∧ (0 ≤ x2 ∧ x2 ≤ 999)) ∧ (∀ M20 : Mem, M20 = mset M 63 ((30 * x1) + a17) x2 → (0 ≤ x1 ∧ x1 < 6) ∧ (∀ a22 : Int, a22 = M20 62 x1 → 0 ≤ a22 → a22 ≤ 30 → ((0 ≤ x1 ∧ x1 < 6) ∧ (0 ≤ a22 + 1 ∧ a22 + 1 ≤ 30)) ∧ (∀ M25 : Mem, M25 = mset M20 62 x1 (a22 + 1) → w_m_change M25 (fun M27 => (0 ≤ x1 ∧ x1 < 6) ∧ (∀ a29 : Int, a29 = M27 62 x1 → 0 ≤ a29 → a29 ≤ 30 → Q a29 M27))))))) ∧ (a11 = 30 → Q (-1004) M))) ∧ (a6 = 0 → Q (-1002) M))))) ∧ (a1 = 0 → Q (-1001) M)))
set_option maxRecDepth 100000 in
set_option maxHeartbeats 4000000 in
theorem s_m_beat {M : Mem} {x1 : Int} {x2 : Int} {Q : Int → Mem → Prop} (hC : rC p R s m args meth c cells slots D aC ad 3 cX12_beat RX12 2 46 (some .int)) (hQ : ∀ (pc : Nat) (L : List (Nat × RV)) (z : Int) (M : Mem), decode cX12_beat pc = .ok (.ireturn, 1) → Q z M → rG p l e R s m args below meth c cells slots Qs D aC ad 3 pc L [vI z] M) (hw : w_m_beat M x1 x2 Q) : rG p l e R s m args below meth c cells slots Qs D aC ad 3 0 [(0, vR 12), (1, vI x1), (2, vI x2)] [] M := by
  unfold w_m_beat at hw
  refine r_aload_n hC dX12_beat_0 rfl rfl ?_
  refine r_iload_n hC dX12_beat_1 rfl rfl ?_
  refine r_callV hC (d_m_isShake hw) rfl kC12_isShake km12_207 kI12_isShake kS12_isShake kN12 dd_12_isShake ⟨Nat.le_of_ble_eq_true rfl, Nat.le_of_ble_eq_true rfl⟩ rfl (Nat.le_of_ble_eq_true rfl) dX12_beat_2 (fun r M' hp => ?_)
  obtain ⟨rfl, a1, rfl, hw⟩ := hp
  try dsimp only at hw
  obtain ⟨o2, hw⟩ := hw
  obtain ⟨hwt, hwf⟩ := hw
  refine r_if_ne hC 12 dX12_beat_5 (by decide) o2.1 o2.2 (fun c4 => ?_) (fun c4 => ?_)
  · have hw := hwt c4
    refine r_iload_n hC dX12_beat_12 rfl rfl ?_
    obtain ⟨o5, hw⟩ := hw
    refine r_i2l hC dX12_beat_13 o5.1 o5.2 ?_
    refine r_lconst hC 0 dX12_beat_14 (by decide) ?_
    refine r_ldc2 hC (999) dX12_beat_15 kL12_176 (by decide) ?_
    refine r_callS hC (d_m_in hw) kC12_in km12_165 kT12_in kN12 dd_12_in ⟨Nat.le_of_ble_eq_true rfl, Nat.le_of_ble_eq_true rfl⟩ rfl (Nat.le_of_ble_eq_true rfl) dX12_beat_18 (fun r M' hp => ?_)
    obtain ⟨rfl, a6, rfl, hw⟩ := hp
    try dsimp only at hw
    obtain ⟨o7, hw⟩ := hw
    obtain ⟨hwt, hwf⟩ := hw
    refine r_if_ne hC 28 dX12_beat_21 (by decide) o7.1 o7.2 (fun c9 => ?_) (fun c9 => ?_)
    · have hw := hwt c9
      refine r_aload_n hC dX12_beat_28 rfl rfl ?_
      refine r_getR hC 10 rfl (by decide) kf12_37 rfl rfl dX12_beat_29 ?_
      refine r_iload_n hC dX12_beat_32 rfl rfl ?_
      obtain ⟨o10, hw⟩ := hw
      refine r_iald hC rfl o10.1 o10.2 (by decide) (by decide) dX12_beat_33 (fun b12 b12' => ?_)
      replace hw := hw _ rfl b12 b12'
      refine r_bipush hC dX12_beat_34 (by decide) ?_
      obtain ⟨hwt, hwf⟩ := hw
      refine r_icmp_ne hC 43 dX12_beat_36 (by decide) (by omega) (by omega) (by decide) (by decide) (fun c15 => ?_) (fun c15 => ?_)
      · have hw := hwt c15
        refine r_aload_n hC dX12_beat_43 rfl rfl ?_
        refine r_getR hC 11 rfl (by decide) kf12_40 rfl rfl dX12_beat_44 ?_
        refine r_bipush hC dX12_beat_47 (by decide) ?_
        refine r_iload_n hC dX12_beat_49 rfl rfl ?_
        refine r_imul hC dX12_beat_50 ?_
        refine r_aload_n hC dX12_beat_51 rfl rfl ?_
        refine r_getR hC 10 rfl (by decide) kf12_37 rfl rfl dX12_beat_52 ?_
        refine r_iload_n hC dX12_beat_55 rfl rfl ?_
        obtain ⟨o16, hw⟩ := hw
        refine r_iald hC rfl o16.1 o16.2 (by decide) (by decide) dX12_beat_56 (fun b18 b18' => ?_)
        replace hw := hw _ rfl b18 b18'
        refine r_iadd hC dX12_beat_57 ?_
        refine r_iload_n hC dX12_beat_58 rfl rfl ?_
        obtain ⟨o19, hw⟩ := hw
        refine r_iast hC rfl o19.1.1 o19.1.2 (by decide) (by decide) o19.2.1 o19.2.2 dX12_beat_59 ?_
        replace hw := hw _ rfl
        refine r_aload_n hC dX12_beat_60 rfl rfl ?_
        refine r_getR hC 10 rfl (by decide) kf12_37 rfl rfl dX12_beat_61 ?_
        refine r_iload_n hC dX12_beat_64 rfl rfl ?_
        refine r_dup2 hC dX12_beat_65 rfl rfl ?_
        obtain ⟨o21, hw⟩ := hw
        refine r_iald hC rfl o21.1 o21.2 (by decide) (by decide) dX12_beat_66 (fun b23 b23' => ?_)
        replace hw := hw _ rfl b23 b23'
        refine r_iconst hC dX12_beat_67 ?_
        refine r_iadd hC dX12_beat_68 ?_
        obtain ⟨o24, hw⟩ := hw
        refine r_iast hC rfl o24.1.1 o24.1.2 (by decide) (by decide) o24.2.1 o24.2.2 dX12_beat_69 ?_
        replace hw := hw _ rfl
        refine r_aload_n hC dX12_beat_70 rfl rfl ?_
        refine r_callV hC (d_m_change hw) rfl kC12_change km12_160 kI12_change kS12_change kN12 dd_12_change ⟨Nat.le_of_ble_eq_true rfl, Nat.le_of_ble_eq_true rfl⟩ rfl (Nat.le_of_ble_eq_true rfl) dX12_beat_71 (fun r M' hp => ?_)
        obtain ⟨rfl, hw⟩ := hp
        try dsimp only at hw
        refine r_aload_n hC dX12_beat_74 rfl rfl ?_
        refine r_getR hC 10 rfl (by decide) kf12_37 rfl rfl dX12_beat_75 ?_
        refine r_iload_n hC dX12_beat_78 rfl rfl ?_
        obtain ⟨o28, hw⟩ := hw
        refine r_iald hC rfl o28.1 o28.2 (by decide) (by decide) dX12_beat_79 (fun b30 b30' => ?_)
        replace hw := hw _ rfl b30 b30'
        exact hQ _ _ _ _ dX12_beat_80 hw
      · have hw := hwf c15
        refine r_sipush hC dX12_beat_39 (by decide) ?_
        exact hQ _ _ _ _ dX12_beat_42 hw
    · have hw := hwf c9
      refine r_sipush hC dX12_beat_24 (by decide) ?_
      exact hQ _ _ _ _ dX12_beat_27 hw
  · have hw := hwf c4
    refine r_sipush hC dX12_beat_8 (by decide) ?_
    exact hQ _ _ _ _ dX12_beat_11 hw
set_option maxRecDepth 100000 in
set_option maxHeartbeats 4000000 in
theorem d_m_beat {l : Launch} {D : va_G} {aC : Nat → ClassId} {ad : Nat → Nat} {M : Mem} {x1 : Int} {x2 : Int} {Q : Int → Mem → Prop} (hw : w_m_beat M x1 x2 Q) : Does l D aC ad yX12_beat cX12_beat 3 (some .int) 2 46 [vR 12, vI x1, vI x2] M (pI Q) :=
  Does.of (by decide) (Nat.le_of_ble_eq_true rfl) (fun p e R s m args below meth c hC => r_subk (s_m_beat hC (fun pc L z M d h => r_iret hC d ⟨z, rfl, h⟩) hw) ⟨rfl, rfl, rfl, trivial⟩)
/-- SoupSandModel.count -/
def w_m_count_B2 (Q : Int → Prop) (x1 : Int) (x2 : Int) (x3 : Int) (M : Mem) (X69 : Int → Int → Prop) (x4 : Int) (x5 : Int) : Prop :=
  ∀ a1 : Int, a1 = M 12 8 → 0 ≤ a1 → a1 ≤ 6 → (-2147483648 ≤ x5 ∧ x5 ≤ 2147483647) ∧ ((a1 ≤ x5 → (-2147483648 ≤ x1 ∧ x1 ≤ 2147483647) ∧ (((x1 < 0 ∨ 8 < x1) → Q (-1002)) ∧ (x1 = 0 → Q x2) ∧ (x1 = 1 → ∀ a8 : Int, a8 = M 12 8 → 0 ≤ a8 → a8 ≤ 6 → Q a8) ∧ (x1 = 2 → Q x4) ∧ (x1 = 3 → ∀ a10 : Int, a10 = M 12 26 → 0 ≤ a10 → a10 ≤ 16 → Q a10) ∧ (x1 = 4 → Q x3) ∧ (x1 = 5 → ∀ a12 : Int, a12 = M 12 39 → 0 ≤ a12 → a12 ≤ 8 → Q a12) ∧ (x1 = 6 → ∀ a14 : Int, a14 = M 12 43 → 0 ≤ a14 → a14 ≤ 8 → Q a14) ∧ (x1 = 7 → ∀ a16 : Int, a16 = M 12 50 → 0 ≤ a16 → a16 ≤ 6 → Q a16) ∧ (x1 = 8 → ∀ a18 : Int, a18 = M 12 60 → 0 ≤ a18 → a18 ≤ 200 → Q a18))) ∧ (¬ (a1 ≤ x5) → (0 ≤ x5 ∧ x5 < 6) ∧ (∀ a21 : Int, a21 = M 62 x5 → 0 ≤ a21 → a21 ≤ 30 → X69 (x4 + a21) (x5 + 1))))
set_option maxRecDepth 100000 in
set_option maxHeartbeats 4000000 in
theorem s_m_count_B2 {Q : Int → Prop} {x1 : Int} {x2 : Int} {x3 : Int} {M : Mem} {X69 : Int → Int → Prop} {x4 : Int} {x5 : Int} (hC : rC p R s m args meth c cells slots D aC ad 6 cX12_count RX12 0 0 (some .int)) (hQ : ∀ (pc : Nat) (L : List (Nat × RV)) (z : Int), decode cX12_count pc = .ok (.ireturn, 1) → Q z → rG p l e R s m args below meth c cells slots Qs D aC ad 6 pc L [vI z] M) (hX69 : ∀ (x4 : Int) (x5 : Int), X69 x4 x5 → rG p l e R s m args below meth c cells slots Qs D aC ad 6 69 [(0, vR 12), (1, vI x1), (2, vI x2), (3, vI x3), (4, vI x4), (5, vI x5)] [] M) (hw : w_m_count_B2 Q x1 x2 x3 M X69 x4 x5) : rG p l e R s m args below meth c cells slots Qs D aC ad 6 69 [(0, vR 12), (1, vI x1), (2, vI x2), (3, vI x3), (4, vI x4), (5, vI x5)] [] M := by
  unfold w_m_count_B2 at hw
  refine r_iload hC dX12_count_69 rfl ?_
  refine r_aload_n hC dX12_count_71 rfl rfl ?_
  refine r_getI hC 8 rfl (by decide) kf12_173 rfl rfl dX12_count_72 (fun b2 b2' => ?_)
  replace hw := hw _ rfl b2 b2'
  obtain ⟨o3, hw⟩ := hw
  obtain ⟨hwt, hwf⟩ := hw
  refine r_icmp_ge hC 96 dX12_count_75 (by decide) o3.1 o3.2 (by omega) (by omega) (fun c5 => ?_) (fun c5 => ?_)
  · have hw := hwt c5
    refine r_iload_n hC dX12_count_96 rfl rfl ?_
    obtain ⟨o6, hw⟩ := hw
    obtain ⟨hd, h0, h1, h2, h3, h4, h5, h6, h7, h8⟩ := hw
    refine r_tsw hC dX12_count_97 o6.1 o6.2 185 (by decide) (fun c7 => ?_) (fun n hn hn2 => ?_)
    · have hw := hd c7
      refine r_sipush hC dX12_count_185 (by decide) ?_
      exact hQ _ _ _ dX12_count_188 hw
    · have hlt : n < 9 := by omega
      match n, hlt with
      | 0, _ =>
        refine ⟨_, 148, rfl, by decide, ?_⟩
        have hw := h0 (by omega)
        refine r_iload_n hC dX12_count_148 rfl rfl ?_
        exact hQ _ _ _ dX12_count_149 hw
      | 1, _ =>
        refine ⟨_, 150, rfl, by decide, ?_⟩
        have hw := h1 (by omega)
        refine r_aload_n hC dX12_count_150 rfl rfl ?_
        refine r_getI hC 8 rfl (by decide) kf12_173 rfl rfl dX12_count_151 (fun b9 b9' => ?_)
        replace hw := hw _ rfl b9 b9'
        exact hQ _ _ _ dX12_count_154 hw
      | 2, _ =>
        refine ⟨_, 155, rfl, by decide, ?_⟩
        have hw := h2 (by omega)
        refine r_iload hC dX12_count_155 rfl ?_
        exact hQ _ _ _ dX12_count_157 hw
      | 3, _ =>
        refine ⟨_, 158, rfl, by decide, ?_⟩
        have hw := h3 (by omega)
        refine r_aload_n hC dX12_count_158 rfl rfl ?_
        refine r_getI hC 26 rfl (by decide) kf12_210 rfl rfl dX12_count_159 (fun b11 b11' => ?_)
        replace hw := hw _ rfl b11 b11'
        exact hQ _ _ _ dX12_count_162 hw
      | 4, _ =>
        refine ⟨_, 163, rfl, by decide, ?_⟩
        have hw := h4 (by omega)
        refine r_iload_n hC dX12_count_163 rfl rfl ?_
        exact hQ _ _ _ dX12_count_164 hw
      | 5, _ =>
        refine ⟨_, 165, rfl, by decide, ?_⟩
        have hw := h5 (by omega)
        refine r_aload_n hC dX12_count_165 rfl rfl ?_
        refine r_getI hC 39 rfl (by decide) kf12_213 rfl rfl dX12_count_166 (fun b13 b13' => ?_)
        replace hw := hw _ rfl b13 b13'
        exact hQ _ _ _ dX12_count_169 hw
      | 6, _ =>
        refine ⟨_, 170, rfl, by decide, ?_⟩
        have hw := h6 (by omega)
        refine r_aload_n hC dX12_count_170 rfl rfl ?_
        refine r_getI hC 43 rfl (by decide) kf12_216 rfl rfl dX12_count_171 (fun b15 b15' => ?_)
        replace hw := hw _ rfl b15 b15'
        exact hQ _ _ _ dX12_count_174 hw
      | 7, _ =>
        refine ⟨_, 175, rfl, by decide, ?_⟩
        have hw := h7 (by omega)
        refine r_aload_n hC dX12_count_175 rfl rfl ?_
        refine r_getI hC 50 rfl (by decide) kf12_219 rfl rfl dX12_count_176 (fun b17 b17' => ?_)
        replace hw := hw _ rfl b17 b17'
        exact hQ _ _ _ dX12_count_179 hw
      | 8, _ =>
        refine ⟨_, 180, rfl, by decide, ?_⟩
        have hw := h8 (by omega)
        refine r_aload_n hC dX12_count_180 rfl rfl ?_
        refine r_getI hC 60 rfl (by decide) kf12_222 rfl rfl dX12_count_181 (fun b19 b19' => ?_)
        replace hw := hw _ rfl b19 b19'
        exact hQ _ _ _ dX12_count_184 hw
      | n + 9, h => exact absurd h (by omega)
  · have hw := hwf c5
    refine r_iload hC dX12_count_78 rfl ?_
    refine r_aload_n hC dX12_count_80 rfl rfl ?_
    refine r_getR hC 10 rfl (by decide) kf12_37 rfl rfl dX12_count_81 ?_
    refine r_iload hC dX12_count_84 rfl ?_
    obtain ⟨o20, hw⟩ := hw
    refine r_iald hC rfl o20.1 o20.2 (by decide) (by decide) dX12_count_86 (fun b22 b22' => ?_)
    replace hw := hw _ rfl b22 b22'
    refine r_iadd hC dX12_count_87 ?_
    refine r_istore hC dX12_count_88 (by decide) ?_
    refine r_iinc hC dX12_count_90 rfl (by decide) ?_
    refine r_goto hC 69 dX12_count_93 (by decide) ?_
    exact r_subk (hX69 _ _ hw) ⟨rfl, rfl, rfl, rfl, rfl, rfl, trivial⟩
def w_m_count_L2 (Q : Int → Prop) (x1 : Int) (x2 : Int) (x3 : Int) (M : Mem) (x4 : Int) (x5 : Int) : Prop :=
  ∀ X : Int → Int → Prop, (∀ (x4 : Int) (x5 : Int), w_m_count_B2 Q x1 x2 x3 M X x4 x5 → X x4 x5) → X x4 x5
set_option maxRecDepth 100000 in
set_option maxHeartbeats 4000000 in
theorem s_m_count_L2 {Q : Int → Prop} {x1 : Int} {x2 : Int} {x3 : Int} {M : Mem} {x4 : Int} {x5 : Int} (hC : rC p R s m args meth c cells slots D aC ad 6 cX12_count RX12 0 0 (some .int)) (hQ : ∀ (pc : Nat) (L : List (Nat × RV)) (z : Int), decode cX12_count pc = .ok (.ireturn, 1) → Q z → rG p l e R s m args below meth c cells slots Qs D aC ad 6 pc L [vI z] M) (hw : w_m_count_L2 Q x1 x2 x3 M x4 x5) : rG p l e R s m args below meth c cells slots Qs D aC ad 6 69 [(0, vR 12), (1, vI x1), (2, vI x2), (3, vI x3), (4, vI x4), (5, vI x5)] [] M := by
  unfold w_m_count_L2 at hw
  exact hw (fun x4 x5 => rG p l e R s m args below meth c cells slots Qs D aC ad 6 69 [(0, vR 12), (1, vI x1), (2, vI x2), (3, vI x3), (4, vI x4), (5, vI x5)] [] M) (fun x4 x5 hb => s_m_count_B2 hC hQ (fun _ _ h => h) hb)
def w_m_count_B1 (Q : Int → Prop) (x1 : Int) (x2 : Int) (M : Mem) (X30 : Int → Int → Prop) (x3 : Int) (x4 : Int) : Prop :=
  ∀ a1 : Int, a1 = M 12 26 → 0 ≤ a1 → a1 ≤ 16 → (-2147483648 ≤ x4 ∧ x4 ≤ 2147483647) ∧ ((a1 ≤ x4 → w_m_count_L2 Q x1 x2 x3 M 0 0) ∧ (¬ (a1 ≤ x4) → (0 ≤ x4 ∧ x4 < 16) ∧ (∀ a7 : Int, a7 = M 80 x4 → 0 ≤ a7 → a7 ≤ 1 → (a7 = 0 → X30 (x3 + 0) (x4 + 1)) ∧ (¬ (a7 = 0) → X30 (x3 + 1) (x4 + 1)))))
set_option maxRecDepth 100000 in
set_option maxHeartbeats 4000000 in
theorem s_m_count_B1 {Q : Int → Prop} {x1 : Int} {x2 : Int} {M : Mem} {X30 : Int → Int → Prop} {x3 : Int} {x4 : Int} (hC : rC p R s m args meth c cells slots D aC ad 6 cX12_count RX12 0 0 (some .int)) (hQ : ∀ (pc : Nat) (L : List (Nat × RV)) (z : Int), decode cX12_count pc = .ok (.ireturn, 1) → Q z → rG p l e R s m args below meth c cells slots Qs D aC ad 6 pc L [vI z] M) (hX30 : ∀ (x3 : Int) (x4 : Int), X30 x3 x4 → rG p l e R s m args below meth c cells slots Qs D aC ad 6 30 [(0, vR 12), (1, vI x1), (2, vI x2), (3, vI x3), (4, vI x4)] [] M) (hw : w_m_count_B1 Q x1 x2 M X30 x3 x4) : rG p l e R s m args below meth c cells slots Qs D aC ad 6 30 [(0, vR 12), (1, vI x1), (2, vI x2), (3, vI x3), (4, vI x4)] [] M := by
  unfold w_m_count_B1 at hw
  refine r_iload hC dX12_count_30 rfl ?_
  refine r_aload_n hC dX12_count_32 rfl rfl ?_
  refine r_getI hC 26 rfl (by decide) kf12_210 rfl rfl dX12_count_33 (fun b2 b2' => ?_)
  replace hw := hw _ rfl b2 b2'
  obtain ⟨o3, hw⟩ := hw
  obtain ⟨hwt, hwf⟩ := hw
  refine r_icmp_ge hC 63 dX12_count_36 (by decide) o3.1 o3.2 (by omega) (by omega) (fun c5 => ?_) (fun c5 => ?_)
  · have hw := hwt c5
    refine r_iconst hC dX12_count_63 ?_
    refine r_istore hC dX12_count_64 (by decide) ?_
    refine r_iconst hC dX12_count_66 ?_
    refine r_istore hC dX12_count_67 (by decide) ?_
    exact r_subk (s_m_count_L2 hC hQ hw) ⟨rfl, rfl, rfl, rfl, rfl, rfl, trivial⟩
  · have hw := hwf c5
    refine r_iload_n hC dX12_count_39 rfl rfl ?_
    refine r_aload_n hC dX12_count_40 rfl rfl ?_
    refine r_getR hC 32 rfl (by decide) kf12_92 rfl rfl dX12_count_41 ?_
    refine r_iload hC dX12_count_44 rfl ?_
    obtain ⟨o6, hw⟩ := hw
    refine r_zald hC rfl o6.1 o6.2 (by decide) (by decide) dX12_count_46 (fun b8 b8' => ?_)
    replace hw := hw _ rfl b8 b8'
    obtain ⟨hwt, hwf⟩ := hw
    refine r_if_eq hC 54 dX12_count_47 (by decide) (by omega) (by omega) (fun c11 => ?_) (fun c11 => ?_)
    · have hw := hwt c11
      refine r_iconst hC dX12_count_54 ?_
      refine r_iadd hC dX12_count_55 ?_
      refine r_istore_n hC dX12_count_56 rfl (by decide) ?_
      refine r_iinc hC dX12_count_57 rfl (by decide) ?_
      refine r_goto hC 30 dX12_count_60 (by decide) ?_
      exact r_subk (hX30 _ _ hw) ⟨rfl, rfl, rfl, rfl, rfl, trivial⟩
    · have hw := hwf c11
      refine r_iconst hC dX12_count_50 ?_
      refine r_goto hC 55 dX12_count_51 (by decide) ?_
      refine r_iadd hC dX12_count_55 ?_
      refine r_istore_n hC dX12_count_56 rfl (by decide) ?_
      refine r_iinc hC dX12_count_57 rfl (by decide) ?_
      refine r_goto hC 30 dX12_count_60 (by decide) ?_
      exact r_subk (hX30 _ _ hw) ⟨rfl, rfl, rfl, rfl, rfl, trivial⟩
def w_m_count_L1 (Q : Int → Prop) (x1 : Int) (x2 : Int) (M : Mem) (x3 : Int) (x4 : Int) : Prop :=
  ∀ X : Int → Int → Prop, (∀ (x3 : Int) (x4 : Int), w_m_count_B1 Q x1 x2 M X x3 x4 → X x3 x4) → X x3 x4
set_option maxRecDepth 100000 in
set_option maxHeartbeats 4000000 in
theorem s_m_count_L1 {Q : Int → Prop} {x1 : Int} {x2 : Int} {M : Mem} {x3 : Int} {x4 : Int} (hC : rC p R s m args meth c cells slots D aC ad 6 cX12_count RX12 0 0 (some .int)) (hQ : ∀ (pc : Nat) (L : List (Nat × RV)) (z : Int), decode cX12_count pc = .ok (.ireturn, 1) → Q z → rG p l e R s m args below meth c cells slots Qs D aC ad 6 pc L [vI z] M) (hw : w_m_count_L1 Q x1 x2 M x3 x4) : rG p l e R s m args below meth c cells slots Qs D aC ad 6 30 [(0, vR 12), (1, vI x1), (2, vI x2), (3, vI x3), (4, vI x4)] [] M := by
  unfold w_m_count_L1 at hw
  exact hw (fun x3 x4 => rG p l e R s m args below meth c cells slots Qs D aC ad 6 30 [(0, vR 12), (1, vI x1), (2, vI x2), (3, vI x3), (4, vI x4)] [] M) (fun x3 x4 hb => s_m_count_B1 hC hQ (fun _ _ h => h) hb)
def w_m_count_B0 (Q : Int → Prop) (x1 : Int) (M : Mem) (X4 : Int → Int → Prop) (x2 : Int) (x3 : Int) : Prop :=
  (-2147483648 ≤ x3 ∧ x3 ≤ 2147483647) ∧ ((6 ≤ x3 → w_m_count_L1 Q x1 x2 M 0 0) ∧ (¬ (6 ≤ x3) → (0 ≤ x3 ∧ x3 < 6) ∧ (∀ a5 : Int, a5 = M 55 x3 → 0 ≤ a5 → a5 ≤ 6 → X4 (x2 + a5) (x3 + 1))))
set_option maxRecDepth 100000 in
set_option maxHeartbeats 4000000 in
theorem s_m_count_B0 {Q : Int → Prop} {x1 : Int} {M : Mem} {X4 : Int → Int → Prop} {x2 : Int} {x3 : Int} (hC : rC p R s m args meth c cells slots D aC ad 6 cX12_count RX12 0 0 (some .int)) (hQ : ∀ (pc : Nat) (L : List (Nat × RV)) (z : Int), decode cX12_count pc = .ok (.ireturn, 1) → Q z → rG p l e R s m args below meth c cells slots Qs D aC ad 6 pc L [vI z] M) (hX4 : ∀ (x2 : Int) (x3 : Int), X4 x2 x3 → rG p l e R s m args below meth c cells slots Qs D aC ad 6 4 [(0, vR 12), (1, vI x1), (2, vI x2), (3, vI x3)] [] M) (hw : w_m_count_B0 Q x1 M X4 x2 x3) : rG p l e R s m args below meth c cells slots Qs D aC ad 6 4 [(0, vR 12), (1, vI x1), (2, vI x2), (3, vI x3)] [] M := by
  unfold w_m_count_B0 at hw
  refine r_iload_n hC dX12_count_4 rfl rfl ?_
  refine r_bipush hC dX12_count_5 (by decide) ?_
  obtain ⟨o1, hw⟩ := hw
  obtain ⟨hwt, hwf⟩ := hw
  refine r_icmp_ge hC 25 dX12_count_7 (by decide) o1.1 o1.2 (by decide) (by decide) (fun c3 => ?_) (fun c3 => ?_)
  · have hw := hwt c3
    refine r_iconst hC dX12_count_25 ?_
    refine r_istore_n hC dX12_count_26 rfl (by decide) ?_
    refine r_iconst hC dX12_count_27 ?_
    refine r_istore hC dX12_count_28 (by decide) ?_
    exact r_subk (s_m_count_L1 hC hQ hw) ⟨rfl, rfl, rfl, rfl, rfl, trivial⟩
  · have hw := hwf c3
    refine r_iload_n hC dX12_count_10 rfl rfl ?_
    refine r_aload_n hC dX12_count_11 rfl rfl ?_
    refine r_getR hC 2 rfl (by decide) kf12_16 rfl rfl dX12_count_12 ?_
    refine r_iload_n hC dX12_count_15 rfl rfl ?_
    obtain ⟨o4, hw⟩ := hw
    refine r_iald hC rfl o4.1 o4.2 (by decide) (by decide) dX12_count_16 (fun b6 b6' => ?_)
    replace hw := hw _ rfl b6 b6'
    refine r_iadd hC dX12_count_17 ?_
    refine r_istore_n hC dX12_count_18 rfl (by decide) ?_
    refine r_iinc hC dX12_count_19 rfl (by decide) ?_
    refine r_goto hC 4 dX12_count_22 (by decide) ?_
    exact r_subk (hX4 _ _ hw) ⟨rfl, rfl, rfl, rfl, trivial⟩
def w_m_count_L0 (Q : Int → Prop) (x1 : Int) (M : Mem) (x2 : Int) (x3 : Int) : Prop :=
  ∀ X : Int → Int → Prop, (∀ (x2 : Int) (x3 : Int), w_m_count_B0 Q x1 M X x2 x3 → X x2 x3) → X x2 x3
set_option maxRecDepth 100000 in
set_option maxHeartbeats 4000000 in
theorem s_m_count_L0 {Q : Int → Prop} {x1 : Int} {M : Mem} {x2 : Int} {x3 : Int} (hC : rC p R s m args meth c cells slots D aC ad 6 cX12_count RX12 0 0 (some .int)) (hQ : ∀ (pc : Nat) (L : List (Nat × RV)) (z : Int), decode cX12_count pc = .ok (.ireturn, 1) → Q z → rG p l e R s m args below meth c cells slots Qs D aC ad 6 pc L [vI z] M) (hw : w_m_count_L0 Q x1 M x2 x3) : rG p l e R s m args below meth c cells slots Qs D aC ad 6 4 [(0, vR 12), (1, vI x1), (2, vI x2), (3, vI x3)] [] M := by
  unfold w_m_count_L0 at hw
  exact hw (fun x2 x3 => rG p l e R s m args below meth c cells slots Qs D aC ad 6 4 [(0, vR 12), (1, vI x1), (2, vI x2), (3, vI x3)] [] M) (fun x2 x3 hb => s_m_count_B0 hC hQ (fun _ _ h => h) hb)
def w_m_count (M : Mem) (x1 : Int) (Q : Int → Prop) : Prop :=
  w_m_count_L0 Q x1 M 0 0
set_option maxRecDepth 100000 in
set_option maxHeartbeats 4000000 in
theorem s_m_count {M : Mem} {x1 : Int} {Q : Int → Prop} (hC : rC p R s m args meth c cells slots D aC ad 6 cX12_count RX12 0 0 (some .int)) (hQ : ∀ (pc : Nat) (L : List (Nat × RV)) (z : Int), decode cX12_count pc = .ok (.ireturn, 1) → Q z → rG p l e R s m args below meth c cells slots Qs D aC ad 6 pc L [vI z] M) (hw : w_m_count M x1 Q) : rG p l e R s m args below meth c cells slots Qs D aC ad 6 0 [(0, vR 12), (1, vI x1)] [] M := by
  unfold w_m_count at hw
  refine r_iconst hC dX12_count_0 ?_
  refine r_istore_n hC dX12_count_1 rfl (by decide) ?_
  refine r_iconst hC dX12_count_2 ?_
  refine r_istore_n hC dX12_count_3 rfl (by decide) ?_
  exact r_subk (s_m_count_L0 hC hQ hw) ⟨rfl, rfl, rfl, rfl, trivial⟩
set_option maxRecDepth 100000 in
set_option maxHeartbeats 4000000 in
theorem d_m_count {l : Launch} {D : va_G} {aC : Nat → ClassId} {ad : Nat → Nat} {M : Mem} {x1 : Int} {Q : Int → Prop} (hw : w_m_count M x1 Q) : Does l D aC ad yX12_count cX12_count 6 (some .int) 0 0 [vR 12, vI x1] M (qI M Q) :=
  Does.of (by decide) (Nat.le_of_ble_eq_true rfl) (fun p e R s m args below meth c hC => r_subk (s_m_count hC (fun pc L z d h => r_iret hC d ⟨rfl, ⟨z, rfl, h⟩⟩) hw) ⟨rfl, rfl, trivial⟩)
end
