section
variable {p : Program} {l : Launch} {e : Env} {R : Room} {s : State} {m : MethodId} {args : Array Value} {below : List Frame} {meth : Method} {c : Code} {cells slots : Nat} {Qs : State → Prop} {D : va_G} {aC : Nat → ClassId} {ad : Nat → Nat}
/-- SoupSandModel.plain -/
def w_m_plain (M : Mem) (Q : Mem → Prop) : Prop :=
  ∀ M2 : Mem, M2 = mset M 12 22 0 → ∀ M4 : Mem, M4 = mset M2 12 23 0 → Q M4
set_option maxRecDepth 100000 in
set_option maxHeartbeats 4000000 in
theorem s_m_plain {M : Mem} {Q : Mem → Prop} (hC : rC p R s m args meth c cells slots D aC ad 1 cX12_plain RX12 0 0 none) (hQ : ∀ (pc : Nat) (L : List (Nat × RV)) (M : Mem), decode cX12_plain pc = .ok (.return_, 1) → Q M → rG p l e R s m args below meth c cells slots Qs D aC ad 1 pc L [] M) (hw : w_m_plain M Q) : rG p l e R s m args below meth c cells slots Qs D aC ad 1 0 [(0, vR 12)] [] M := by
  unfold w_m_plain at hw
  refine r_aload_n hC dX12_plain_0 rfl rfl ?_
  refine r_iconst hC dX12_plain_1 ?_
  refine r_putI hC 22 rfl (by decide) kf12_229 rfl rfl (by decide) (by decide) dX12_plain_2 ?_
  replace hw := hw _ rfl
  refine r_aload_n hC dX12_plain_5 rfl rfl ?_
  refine r_iconst hC dX12_plain_6 ?_
  refine r_putI hC 23 rfl (by decide) kf12_236 rfl rfl (by decide) (by decide) dX12_plain_7 ?_
  replace hw := hw _ rfl
  exact hQ _ _ _ dX12_plain_10 hw
set_option maxRecDepth 100000 in
set_option maxHeartbeats 4000000 in
theorem d_m_plain {l : Launch} {D : va_G} {aC : Nat → ClassId} {ad : Nat → Nat} {M : Mem} {Q : Mem → Prop} (hw : w_m_plain M Q) : Does l D aC ad yX12_plain cX12_plain 1 none 0 0 [vR 12] M (pV Q) :=
  Does.of (by decide) (Nat.le_of_ble_eq_true rfl) (fun p e R s m args below meth c hC => r_subk (s_m_plain hC (fun pc L M d h => r_vret hC d ⟨rfl, h⟩) hw) ⟨rfl, trivial⟩)
/-- SoupSandModel.choose -/
def w_m_choose_B0 (Q : Mem → Prop) (x1 : Int) (X17 : Int → Int → Mem → Prop) (x3 : Int) (x4 : Int) (M : Mem) : Prop :=
  (-2147483648 ≤ x4 ∧ x4 ≤ 2147483647) ∧ ((x4 < 0 → Q M) ∧ (¬ (x4 < 0) → (0 ≤ (6 * x1) + x4 ∧ (6 * x1) + x4 < 36) ∧ (∀ a5 : Int, a5 = M 58 ((6 * x1) + x4) → 0 ≤ a5 → a5 ≤ 3 → ((0 ≤ x3 ∧ x3 ≤ 2147483647) ∧ (0 < a5 ∧ a5 ≤ 2147483647)) ∧ (((0 ≤ x4 ∧ x4 < 6) ∧ (0 ≤ x3 % a5 ∧ x3 % a5 ≤ 2)) ∧ (∀ M9 : Mem, M9 = mset M 68 x4 (x3 % a5) → (0 ≤ (6 * x1) + x4 ∧ (6 * x1) + x4 < 36) ∧ (∀ a11 : Int, a11 = M9 58 ((6 * x1) + x4) → 0 ≤ a11 → a11 ≤ 3 → ((0 ≤ x3 ∧ x3 ≤ 2147483647) ∧ (0 < a11 ∧ a11 ≤ 2147483647)) ∧ (∀ a14 : Int, a14 = M9 12 17 → -1125899906842624 ≤ a14 → a14 ≤ 1125899906842624 → (0 ≤ x4 ∧ x4 < 6) ∧ (∀ a17 : Int, a17 = M9 68 x4 → 0 ≤ a17 → a17 ≤ 2 → (0 ≤ (3 * ((6 * x1) + x4)) + a17 ∧ (3 * ((6 * x1) + x4)) + a17 < 108) ∧ (∀ a20 : Int, a20 = M9 60 ((3 * ((6 * x1) + x4)) + a17) → 0 ≤ a20 → a20 ≤ 9 → (-1125899906842624 ≤ a14 * a20 ∧ a14 * a20 ≤ 1125899906842624) ∧ (∀ M24 : Mem, M24 = mset M9 12 17 (a14 * a20) → X17 (x3 / a11) (x4 + (-1)) M24))))))))))
set_option maxRecDepth 100000 in
set_option maxHeartbeats 4000000 in
theorem s_m_choose_B0 {Q : Mem → Prop} {x1 : Int} {X17 : Int → Int → Mem → Prop} {x3 : Int} {x4 : Int} {M : Mem} (hC : rC p R s m args meth c cells slots D aC ad 6 cX12_choose RX12 0 0 none) (hQ : ∀ (pc : Nat) (L : List (Nat × RV)) (M : Mem), decode cX12_choose pc = .ok (.return_, 1) → Q M → rG p l e R s m args below meth c cells slots Qs D aC ad 6 pc L [] M) (hX17 : ∀ (x3 : Int) (x4 : Int) (M : Mem), X17 x3 x4 M → rG p l e R s m args below meth c cells slots Qs D aC ad 6 17 [(0, vR 12), (1, vI x1), (3, vI x3), (4, vI x4)] [] M) (hw : w_m_choose_B0 Q x1 X17 x3 x4 M) : rG p l e R s m args below meth c cells slots Qs D aC ad 6 17 [(0, vR 12), (1, vI x1), (3, vI x3), (4, vI x4)] [] M := by
  unfold w_m_choose_B0 at hw
  refine r_iload hC dX12_choose_17 rfl ?_
  obtain ⟨o1, hw⟩ := hw
  obtain ⟨hwt, hwf⟩ := hw
  refine r_if_lt hC 90 dX12_choose_19 (by decide) o1.1 o1.2 (fun c3 => ?_) (fun c3 => ?_)
  · have hw := hwt c3
    exact hQ _ _ _ dX12_choose_90 hw
  · have hw := hwf c3
    refine r_bipush hC dX12_choose_22 (by decide) ?_
    refine r_iload_n hC dX12_choose_24 rfl rfl ?_
    refine r_imul hC dX12_choose_25 ?_
    refine r_iload hC dX12_choose_26 rfl ?_
    refine r_iadd hC dX12_choose_28 ?_
    refine r_istore hC dX12_choose_29 (by decide) ?_
    refine r_aload_n hC dX12_choose_31 rfl rfl ?_
    refine r_getR hC 16 rfl (by decide) kf12_56 rfl rfl dX12_choose_32 ?_
    refine r_iload hC dX12_choose_35 rfl ?_
    refine r_iload_n hC dX12_choose_37 rfl rfl ?_
    refine r_aload_n hC dX12_choose_38 rfl rfl ?_
    refine r_getR hC 5 rfl (by decide) kf12_25 rfl rfl dX12_choose_39 ?_
    refine r_iload hC dX12_choose_42 rfl ?_
    obtain ⟨o4, hw⟩ := hw
    refine r_iald hC rfl o4.1 o4.2 (by decide) (by decide) dX12_choose_44 (fun b6 b6' => ?_)
    replace hw := hw _ rfl b6 b6'
    obtain ⟨o7, hw⟩ := hw
    refine r_irem hC dX12_choose_45 o7.1.1 o7.1.2 o7.2.1 o7.2.2 ?_
    obtain ⟨o8, hw⟩ := hw
    refine r_iast hC rfl o8.1.1 o8.1.2 (by decide) (by decide) o8.2.1 o8.2.2 dX12_choose_46 ?_
    replace hw := hw _ rfl
    refine r_iload_n hC dX12_choose_47 rfl rfl ?_
    refine r_aload_n hC dX12_choose_48 rfl rfl ?_
    refine r_getR hC 5 rfl (by decide) kf12_25 rfl rfl dX12_choose_49 ?_
    refine r_iload hC dX12_choose_52 rfl ?_
    obtain ⟨o10, hw⟩ := hw
    refine r_iald hC rfl o10.1 o10.2 (by decide) (by decide) dX12_choose_54 (fun b12 b12' => ?_)
    replace hw := hw _ rfl b12 b12'
    obtain ⟨o13, hw⟩ := hw
    refine r_idiv hC dX12_choose_55 o13.1.1 o13.1.2 o13.2.1 o13.2.2 ?_
    refine r_istore_n hC dX12_choose_56 rfl (by decide) ?_
    refine r_aload_n hC dX12_choose_57 rfl rfl ?_
    refine r_dup hC dX12_choose_58 rfl ?_
    refine r_getJ hC 17 rfl (by decide) kf12_225 rfl rfl dX12_choose_59 (fun b15 b15' => ?_)
    replace hw := hw _ rfl b15 b15'
    refine r_aload_n hC dX12_choose_62 rfl rfl ?_
    refine r_getR hC 7 rfl (by decide) kf12_31 rfl rfl dX12_choose_63 ?_
    refine r_iconst hC dX12_choose_66 ?_
    refine r_iload hC dX12_choose_67 rfl ?_
    refine r_imul hC dX12_choose_69 ?_
    refine r_aload_n hC dX12_choose_70 rfl rfl ?_
    refine r_getR hC 16 rfl (by decide) kf12_56 rfl rfl dX12_choose_71 ?_
    refine r_iload hC dX12_choose_74 rfl ?_
    obtain ⟨o16, hw⟩ := hw
    refine r_iald hC rfl o16.1 o16.2 (by decide) (by decide) dX12_choose_76 (fun b18 b18' => ?_)
    replace hw := hw _ rfl b18 b18'
    refine r_iadd hC dX12_choose_77 ?_
    obtain ⟨o19, hw⟩ := hw
    refine r_iald hC rfl o19.1 o19.2 (by decide) (by decide) dX12_choose_78 (fun b21 b21' => ?_)
    replace hw := hw _ rfl b21 b21'
    refine r_i2l hC dX12_choose_79 (by omega) (by omega) ?_
    refine r_lmul hC dX12_choose_80 ?_
    obtain ⟨o23, hw⟩ := hw
    refine r_putJ hC 17 rfl (by decide) kf12_225 rfl rfl o23.1 o23.2 dX12_choose_81 ?_
    replace hw := hw _ rfl
    refine r_iinc hC dX12_choose_84 rfl (by decide) ?_
    refine r_goto hC 17 dX12_choose_87 (by decide) ?_
    exact r_subk (hX17 _ _ _ hw) ⟨rfl, rfl, rfl, rfl, trivial⟩
def w_m_choose_L0 (Q : Mem → Prop) (x1 : Int) (x3 : Int) (x4 : Int) (M : Mem) : Prop :=
  ∀ X : Int → Int → Mem → Prop, (∀ (x3 : Int) (x4 : Int) (M : Mem), w_m_choose_B0 Q x1 X x3 x4 M → X x3 x4 M) → X x3 x4 M
set_option maxRecDepth 100000 in
set_option maxHeartbeats 4000000 in
theorem s_m_choose_L0 {Q : Mem → Prop} {x1 : Int} {x3 : Int} {x4 : Int} {M : Mem} (hC : rC p R s m args meth c cells slots D aC ad 6 cX12_choose RX12 0 0 none) (hQ : ∀ (pc : Nat) (L : List (Nat × RV)) (M : Mem), decode cX12_choose pc = .ok (.return_, 1) → Q M → rG p l e R s m args below meth c cells slots Qs D aC ad 6 pc L [] M) (hw : w_m_choose_L0 Q x1 x3 x4 M) : rG p l e R s m args below meth c cells slots Qs D aC ad 6 17 [(0, vR 12), (1, vI x1), (3, vI x3), (4, vI x4)] [] M := by
  unfold w_m_choose_L0 at hw
  exact hw (fun x3 x4 M => rG p l e R s m args below meth c cells slots Qs D aC ad 6 17 [(0, vR 12), (1, vI x1), (3, vI x3), (4, vI x4)] [] M) (fun x3 x4 M hb => s_m_choose_B0 hC hQ (fun _ _ _ h => h) hb)
def w_m_choose (M : Mem) (x1 : Int) (x2 : Int) (Q : Mem → Prop) : Prop :=
  ∀ M2 : Mem, M2 = mset M 12 17 1 → (0 ≤ x1 ∧ x1 < 6) ∧ (∀ a4 : Int, a4 = M2 55 x1 → 0 ≤ a4 → a4 ≤ 6 → w_m_choose_L0 Q x1 x2 (a4 - 1) M2)
set_option maxRecDepth 100000 in
set_option maxHeartbeats 4000000 in
theorem s_m_choose {M : Mem} {x1 : Int} {x2 : Int} {Q : Mem → Prop} (hC : rC p R s m args meth c cells slots D aC ad 6 cX12_choose RX12 0 0 none) (hQ : ∀ (pc : Nat) (L : List (Nat × RV)) (M : Mem), decode cX12_choose pc = .ok (.return_, 1) → Q M → rG p l e R s m args below meth c cells slots Qs D aC ad 6 pc L [] M) (hw : w_m_choose M x1 x2 Q) : rG p l e R s m args below meth c cells slots Qs D aC ad 6 0 [(0, vR 12), (1, vI x1), (2, vI x2)] [] M := by
  unfold w_m_choose at hw
  refine r_iload_n hC dX12_choose_0 rfl rfl ?_
  refine r_istore_n hC dX12_choose_1 rfl (by decide) ?_
  refine r_aload_n hC dX12_choose_2 rfl rfl ?_
  refine r_lconst hC 1 dX12_choose_3 (by decide) ?_
  refine r_putJ hC 17 rfl (by decide) kf12_225 rfl rfl (by decide) (by decide) dX12_choose_4 ?_
  replace hw := hw _ rfl
  refine r_aload_n hC dX12_choose_7 rfl rfl ?_
  refine r_getR hC 2 rfl (by decide) kf12_16 rfl rfl dX12_choose_8 ?_
  refine r_iload_n hC dX12_choose_11 rfl rfl ?_
  obtain ⟨o3, hw⟩ := hw
  refine r_iald hC rfl o3.1 o3.2 (by decide) (by decide) dX12_choose_12 (fun b5 b5' => ?_)
  replace hw := hw _ rfl b5 b5'
  refine r_iconst hC dX12_choose_13 ?_
  refine r_isub hC dX12_choose_14 ?_
  refine r_istore hC dX12_choose_15 (by decide) ?_
  exact r_subk (s_m_choose_L0 hC hQ hw) ⟨rfl, rfl, rfl, rfl, trivial⟩
set_option maxRecDepth 100000 in
set_option maxHeartbeats 4000000 in
theorem d_m_choose {l : Launch} {D : va_G} {aC : Nat → ClassId} {ad : Nat → Nat} {M : Mem} {x1 : Int} {x2 : Int} {Q : Mem → Prop} (hw : w_m_choose M x1 x2 Q) : Does l D aC ad yX12_choose cX12_choose 6 none 0 0 [vR 12, vI x1, vI x2] M (pV Q) :=
  Does.of (by decide) (Nat.le_of_ble_eq_true rfl) (fun p e R s m args below meth c hC => r_subk (s_m_choose hC (fun pc L M d h => r_vret hC d ⟨rfl, h⟩) hw) ⟨rfl, rfl, rfl, trivial⟩)
/-- SoupSandModel.grow -/
def w_m_grow (M : Mem) (x1 : Int) (x2 : Int) (x3 : Int) (Q : Mem → Prop) : Prop :=
  (0 ≤ x1 ∧ x1 < 6) ∧ (∀ a2 : Int, a2 = M 69 x1 → 0 ≤ a2 → a2 ≤ 20000000 → ((0 ≤ x1 ∧ x1 < 6) ∧ (0 ≤ a2 + x2 ∧ a2 + x2 ≤ 20000000)) ∧ (∀ M5 : Mem, M5 = mset M 69 x1 (a2 + x2) → (0 ≤ x1 ∧ x1 < 6) ∧ (∀ a7 : Int, a7 = M5 69 x1 → 0 ≤ a7 → a7 ≤ 20000000 → (a7 < 1000 → Q M5) ∧ (¬ (a7 < 1000) → (0 ≤ x1 ∧ x1 < 6) ∧ (∀ M13 : Mem, M13 = mset M5 69 x1 1000 → ((0 ≤ x1 ∧ x1 < 6) ∧ (-1 ≤ x3 ∧ x3 ≤ 59)) ∧ (∀ M15 : Mem, M15 = mset M13 70 x1 x3 → Q M15))))))
set_option maxRecDepth 100000 in
set_option maxHeartbeats 4000000 in
theorem s_m_grow {M : Mem} {x1 : Int} {x2 : Int} {x3 : Int} {Q : Mem → Prop} (hC : rC p R s m args meth c cells slots D aC ad 4 cX12_grow RX12 0 0 none) (hQ : ∀ (pc : Nat) (L : List (Nat × RV)) (M : Mem), decode cX12_grow pc = .ok (.return_, 1) → Q M → rG p l e R s m args below meth c cells slots Qs D aC ad 4 pc L [] M) (hw : w_m_grow M x1 x2 x3 Q) : rG p l e R s m args below meth c cells slots Qs D aC ad 4 0 [(0, vR 12), (1, vI x1), (2, vI x2), (3, vI x3)] [] M := by
  unfold w_m_grow at hw
  refine r_aload_n hC dX12_grow_0 rfl rfl ?_
  refine r_getR hC 18 rfl (by decide) kf12_59 rfl rfl dX12_grow_1 ?_
  refine r_iload_n hC dX12_grow_4 rfl rfl ?_
  refine r_dup2 hC dX12_grow_5 rfl rfl ?_
  obtain ⟨o1, hw⟩ := hw
  refine r_iald hC rfl o1.1 o1.2 (by decide) (by decide) dX12_grow_6 (fun b3 b3' => ?_)
  replace hw := hw _ rfl b3 b3'
  refine r_iload_n hC dX12_grow_7 rfl rfl ?_
  refine r_iadd hC dX12_grow_8 ?_
  obtain ⟨o4, hw⟩ := hw
  refine r_iast hC rfl o4.1.1 o4.1.2 (by decide) (by decide) o4.2.1 o4.2.2 dX12_grow_9 ?_
  replace hw := hw _ rfl
  refine r_aload_n hC dX12_grow_10 rfl rfl ?_
  refine r_getR hC 18 rfl (by decide) kf12_59 rfl rfl dX12_grow_11 ?_
  refine r_iload_n hC dX12_grow_14 rfl rfl ?_
  obtain ⟨o6, hw⟩ := hw
  refine r_iald hC rfl o6.1 o6.2 (by decide) (by decide) dX12_grow_15 (fun b8 b8' => ?_)
  replace hw := hw _ rfl b8 b8'
  refine r_sipush hC dX12_grow_16 (by decide) ?_
  obtain ⟨hwt, hwf⟩ := hw
  refine r_icmp_lt hC 38 dX12_grow_19 (by decide) (by omega) (by omega) (by decide) (by decide) (fun c11 => ?_) (fun c11 => ?_)
  · have hw := hwt c11
    exact hQ _ _ _ dX12_grow_38 hw
  · have hw := hwf c11
    refine r_aload_n hC dX12_grow_22 rfl rfl ?_
    refine r_getR hC 18 rfl (by decide) kf12_59 rfl rfl dX12_grow_23 ?_
    refine r_iload_n hC dX12_grow_26 rfl rfl ?_
    refine r_sipush hC dX12_grow_27 (by decide) ?_
    obtain ⟨o12, hw⟩ := hw
    refine r_iast hC rfl o12.1 o12.2 (by decide) (by decide) (by decide) (by decide) dX12_grow_30 ?_
    replace hw := hw _ rfl
    refine r_aload_n hC dX12_grow_31 rfl rfl ?_
    refine r_getR hC 19 rfl (by decide) kf12_62 rfl rfl dX12_grow_32 ?_
    refine r_iload_n hC dX12_grow_35 rfl rfl ?_
    refine r_iload_n hC dX12_grow_36 rfl rfl ?_
    obtain ⟨o14, hw⟩ := hw
    refine r_iast hC rfl o14.1.1 o14.1.2 (by decide) (by decide) o14.2.1 o14.2.2 dX12_grow_37 ?_
    replace hw := hw _ rfl
    exact hQ _ _ _ dX12_grow_38 hw
set_option maxRecDepth 100000 in
set_option maxHeartbeats 4000000 in
theorem d_m_grow {l : Launch} {D : va_G} {aC : Nat → ClassId} {ad : Nat → Nat} {M : Mem} {x1 : Int} {x2 : Int} {x3 : Int} {Q : Mem → Prop} (hw : w_m_grow M x1 x2 x3 Q) : Does l D aC ad yX12_grow cX12_grow 4 none 0 0 [vR 12, vI x1, vI x2, vI x3] M (pV Q) :=
  Does.of (by decide) (Nat.le_of_ble_eq_true rfl) (fun p e R s m args below meth c hC => r_subk (s_m_grow hC (fun pc L M d h => r_vret hC d ⟨rfl, h⟩) hw) ⟨rfl, rfl, rfl, rfl, trivial⟩)
theorem dd_12_grow : yX12_grow.cls ≠ "java/lang/invoke/MethodHandle" ∧ yX12_grow.cls ≠ "java/lang/invoke/VarHandle" ∧ (parseMethodDescriptor yX12_grow.desc).map (fun d => d.parameters.length) = some 3 := by decide +kernel
/-- SoupSandModel.drain -/
def w_m_drain_B1 (Q : Mem → Prop) (x2 : Int) (x3 : Int) (X106 : Int → Mem → Prop) (x4 : Int) (M : Mem) : Prop :=
  (-2147483648 ≤ x4 ∧ x4 ≤ 2147483647) ∧ ((-2147483648 ≤ x3 ∧ x3 ≤ 2147483647) ∧ ((x3 ≤ x4 → Q M) ∧ (¬ (x3 ≤ x4) → (0 ≤ x4 ∧ x4 < 6) ∧ (∀ a5 : Int, a5 = M 69 x4 → 0 ≤ a5 → a5 ≤ 20000000 → (0 ≤ x4 ∧ x4 < 6) ∧ (∀ a8 : Int, a8 = M 72 x4 → 0 ≤ a8 → a8 ≤ 1000 → ((0 ≤ x4 ∧ x4 < 6) ∧ (0 ≤ a5 - a8 ∧ a5 - a8 ≤ 20000000)) ∧ (∀ M11 : Mem, M11 = mset M 69 x4 (a5 - a8) → (-2147483648 ≤ x4 + 1 ∧ x4 + 1 ≤ 2147483647) ∧ ((-2147483648 ≤ x3 ∧ x3 ≤ 2147483647) ∧ ((x3 ≤ x4 + 1 → X106 (x4 + 1) M11) ∧ (¬ (x3 ≤ x4 + 1) → (0 ≤ x4 ∧ x4 < 6) ∧ (∀ a16 : Int, a16 = M11 73 x4 → 0 ≤ a16 → a16 ≤ 1 → (a16 = 0 → X106 (x4 + 1) M11) ∧ (¬ (a16 = 0) → (0 ≤ x4 ∧ x4 < 6) ∧ (∀ a22 : Int, a22 = M11 70 x4 → -1 ≤ a22 → a22 ≤ 59 → (0 ≤ a22 → X106 (x4 + 1) M11) ∧ (¬ (0 ≤ a22) → (0 ≤ x4 + 1 ∧ x4 + 1 < 6) ∧ (∀ a28 : Int, a28 = M11 72 (x4 + 1) → 0 ≤ a28 → a28 ≤ 1000 → w_m_grow M11 x4 (a28 / 2) x2 (fun M32 => X106 (x4 + 1) M32)))))))))))))))
set_option maxRecDepth 100000 in
set_option maxHeartbeats 4000000 in
theorem s_m_drain_B1 {Q : Mem → Prop} {x2 : Int} {x3 : Int} {X106 : Int → Mem → Prop} {x4 : Int} {M : Mem} (hC : rC p R s m args meth c cells slots D aC ad 6 cX12_drain RX12 1 23 none) (hQ : ∀ (pc : Nat) (L : List (Nat × RV)) (M : Mem), decode cX12_drain pc = .ok (.return_, 1) → Q M → rG p l e R s m args below meth c cells slots Qs D aC ad 6 pc L [] M) (hX106 : ∀ (x4 : Int) (M : Mem), X106 x4 M → rG p l e R s m args below meth c cells slots Qs D aC ad 6 106 [(0, vR 12), (2, vI x2), (3, vI x3), (4, vI x4)] [] M) (hw : w_m_drain_B1 Q x2 x3 X106 x4 M) : rG p l e R s m args below meth c cells slots Qs D aC ad 6 106 [(0, vR 12), (2, vI x2), (3, vI x3), (4, vI x4)] [] M := by
  unfold w_m_drain_B1 at hw
  refine r_iload hC dX12_drain_106 rfl ?_
  refine r_iload_n hC dX12_drain_108 rfl rfl ?_
  obtain ⟨o1, hw⟩ := hw
  obtain ⟨o2, hw⟩ := hw
  obtain ⟨hwt, hwf⟩ := hw
  refine r_icmp_ge hC 181 dX12_drain_109 (by decide) o1.1 o1.2 o2.1 o2.2 (fun c3 => ?_) (fun c3 => ?_)
  · have hw := hwt c3
    exact hQ _ _ _ dX12_drain_181 hw
  · have hw := hwf c3
    refine r_aload_n hC dX12_drain_112 rfl rfl ?_
    refine r_getR hC 18 rfl (by decide) kf12_59 rfl rfl dX12_drain_113 ?_
    refine r_iload hC dX12_drain_116 rfl ?_
    refine r_dup2 hC dX12_drain_118 rfl rfl ?_
    obtain ⟨o4, hw⟩ := hw
    refine r_iald hC rfl o4.1 o4.2 (by decide) (by decide) dX12_drain_119 (fun b6 b6' => ?_)
    replace hw := hw _ rfl b6 b6'
    refine r_aload_n hC dX12_drain_120 rfl rfl ?_
    refine r_getR hC 21 rfl (by decide) kf12_68 rfl rfl dX12_drain_121 ?_
    refine r_iload hC dX12_drain_124 rfl ?_
    obtain ⟨o7, hw⟩ := hw
    refine r_iald hC rfl o7.1 o7.2 (by decide) (by decide) dX12_drain_126 (fun b9 b9' => ?_)
    replace hw := hw _ rfl b9 b9'
    refine r_isub hC dX12_drain_127 ?_
    obtain ⟨o10, hw⟩ := hw
    refine r_iast hC rfl o10.1.1 o10.1.2 (by decide) (by decide) o10.2.1 o10.2.2 dX12_drain_128 ?_
    replace hw := hw _ rfl
    refine r_iload hC dX12_drain_129 rfl ?_
    refine r_iconst hC dX12_drain_131 ?_
    refine r_iadd hC dX12_drain_132 ?_
    refine r_iload_n hC dX12_drain_133 rfl rfl ?_
    obtain ⟨o12, hw⟩ := hw
    obtain ⟨o13, hw⟩ := hw
    obtain ⟨hwt, hwf⟩ := hw
    refine r_icmp_ge hC 175 dX12_drain_134 (by decide) o12.1 o12.2 o13.1 o13.2 (fun c14 => ?_) (fun c14 => ?_)
    · have hw := hwt c14
      refine r_iinc hC dX12_drain_175 rfl (by decide) ?_
      refine r_goto hC 106 dX12_drain_178 (by decide) ?_
      exact r_subk (hX106 _ _ hw) ⟨rfl, rfl, rfl, rfl, trivial⟩
    · have hw := hwf c14
      refine r_aload_n hC dX12_drain_137 rfl rfl ?_
      refine r_getR hC 24 rfl (by decide) kf12_71 rfl rfl dX12_drain_138 ?_
      refine r_iload hC dX12_drain_141 rfl ?_
      obtain ⟨o15, hw⟩ := hw
      refine r_zald hC rfl o15.1 o15.2 (by decide) (by decide) dX12_drain_143 (fun b17 b17' => ?_)
      replace hw := hw _ rfl b17 b17'
      obtain ⟨hwt, hwf⟩ := hw
      refine r_if_eq hC 175 dX12_drain_144 (by decide) (by omega) (by omega) (fun c20 => ?_) (fun c20 => ?_)
      · have hw := hwt c20
        refine r_iinc hC dX12_drain_175 rfl (by decide) ?_
        refine r_goto hC 106 dX12_drain_178 (by decide) ?_
        exact r_subk (hX106 _ _ hw) ⟨rfl, rfl, rfl, rfl, trivial⟩
      · have hw := hwf c20
        refine r_aload_n hC dX12_drain_147 rfl rfl ?_
        refine r_getR hC 19 rfl (by decide) kf12_62 rfl rfl dX12_drain_148 ?_
        refine r_iload hC dX12_drain_151 rfl ?_
        obtain ⟨o21, hw⟩ := hw
        refine r_iald hC rfl o21.1 o21.2 (by decide) (by decide) dX12_drain_153 (fun b23 b23' => ?_)
        replace hw := hw _ rfl b23 b23'
        obtain ⟨hwt, hwf⟩ := hw
        refine r_if_ge hC 175 dX12_drain_154 (by decide) (by omega) (by omega) (fun c26 => ?_) (fun c26 => ?_)
        · have hw := hwt c26
          refine r_iinc hC dX12_drain_175 rfl (by decide) ?_
          refine r_goto hC 106 dX12_drain_178 (by decide) ?_
          exact r_subk (hX106 _ _ hw) ⟨rfl, rfl, rfl, rfl, trivial⟩
        · have hw := hwf c26
          refine r_aload_n hC dX12_drain_157 rfl rfl ?_
          refine r_iload hC dX12_drain_158 rfl ?_
          refine r_aload_n hC dX12_drain_160 rfl rfl ?_
          refine r_getR hC 21 rfl (by decide) kf12_68 rfl rfl dX12_drain_161 ?_
          refine r_iload hC dX12_drain_164 rfl ?_
          refine r_iconst hC dX12_drain_166 ?_
          refine r_iadd hC dX12_drain_167 ?_
          obtain ⟨o27, hw⟩ := hw
          refine r_iald hC rfl o27.1 o27.2 (by decide) (by decide) dX12_drain_168 (fun b29 b29' => ?_)
          replace hw := hw _ rfl b29 b29'
          refine r_iconst hC dX12_drain_169 ?_
          refine r_idiv hC dX12_drain_170 (by omega) (by omega) (by decide) (by decide) ?_
          refine r_iload_n hC dX12_drain_171 rfl rfl ?_
          refine r_callV hC (d_m_grow hw) rfl kC12_grow km12_232 kI12_grow kS12_grow kN12 dd_12_grow ⟨Nat.le_of_ble_eq_true rfl, Nat.le_of_ble_eq_true rfl⟩ rfl (Nat.le_of_ble_eq_true rfl) dX12_drain_172 (fun r M' hp => ?_)
          obtain ⟨rfl, hw⟩ := hp
          try dsimp only at hw
          refine r_iinc hC dX12_drain_175 rfl (by decide) ?_
          refine r_goto hC 106 dX12_drain_178 (by decide) ?_
          exact r_subk (hX106 _ _ hw) ⟨rfl, rfl, rfl, rfl, trivial⟩
def w_m_drain_L1 (Q : Mem → Prop) (x2 : Int) (x3 : Int) (x4 : Int) (M : Mem) : Prop :=
  ∀ X : Int → Mem → Prop, (∀ (x4 : Int) (M : Mem), w_m_drain_B1 Q x2 x3 X x4 M → X x4 M) → X x4 M
set_option maxRecDepth 100000 in
set_option maxHeartbeats 4000000 in
theorem s_m_drain_L1 {Q : Mem → Prop} {x2 : Int} {x3 : Int} {x4 : Int} {M : Mem} (hC : rC p R s m args meth c cells slots D aC ad 6 cX12_drain RX12 1 23 none) (hQ : ∀ (pc : Nat) (L : List (Nat × RV)) (M : Mem), decode cX12_drain pc = .ok (.return_, 1) → Q M → rG p l e R s m args below meth c cells slots Qs D aC ad 6 pc L [] M) (hw : w_m_drain_L1 Q x2 x3 x4 M) : rG p l e R s m args below meth c cells slots Qs D aC ad 6 106 [(0, vR 12), (2, vI x2), (3, vI x3), (4, vI x4)] [] M := by
  unfold w_m_drain_L1 at hw
  exact hw (fun x4 M => rG p l e R s m args below meth c cells slots Qs D aC ad 6 106 [(0, vR 12), (2, vI x2), (3, vI x3), (4, vI x4)] [] M) (fun x4 M hb => s_m_drain_B1 hC hQ (fun _ _ h => h) hb)
def w_m_drain_j1 (Q : Mem → Prop) (X10 : Int → Mem → Prop) (x1 : Int) (x2 : Int) (x3 : Int) (x4 : Int) (s1 : Int) (s2 : Int) (M : Mem) : Prop :=
  ((0 ≤ s1 ∧ s1 < 6) ∧ (0 ≤ s2 ∧ s2 ≤ 1000)) ∧ (∀ M2 : Mem, M2 = mset M 72 s1 s2 → X10 (x4 + 1) M2)
set_option maxRecDepth 100000 in
set_option maxHeartbeats 4000000 in
theorem s_m_drain_j1 {Q : Mem → Prop} {X10 : Int → Mem → Prop} {x1 : Int} {x2 : Int} {x3 : Int} {x4 : Int} {s1 : Int} {s2 : Int} {M : Mem} (hC : rC p R s m args meth c cells slots D aC ad 6 cX12_drain RX12 1 23 none) (hQ : ∀ (pc : Nat) (L : List (Nat × RV)) (M : Mem), decode cX12_drain pc = .ok (.return_, 1) → Q M → rG p l e R s m args below meth c cells slots Qs D aC ad 6 pc L [] M) (hX10 : ∀ (x4 : Int) (M : Mem), X10 x4 M → rG p l e R s m args below meth c cells slots Qs D aC ad 6 10 [(0, vR 12), (1, vI x1), (2, vI x2), (3, vI x3), (4, vI x4)] [] M) (hw : w_m_drain_j1 Q X10 x1 x2 x3 x4 s1 s2 M) : rG p l e R s m args below meth c cells slots Qs D aC ad 6 96 [(0, vR 12), (1, vI x1), (2, vI x2), (3, vI x3), (4, vI x4)] [vI s2, vI s1, vR 72] M := by
  unfold w_m_drain_j1 at hw
  obtain ⟨o1, hw⟩ := hw
  refine r_iast hC rfl o1.1.1 o1.1.2 (by decide) (by decide) o1.2.1 o1.2.2 dX12_drain_96 ?_
  replace hw := hw _ rfl
  refine r_iinc hC dX12_drain_97 rfl (by decide) ?_
  refine r_goto hC 10 dX12_drain_100 (by decide) ?_
  exact r_subk (hX10 _ _ hw) ⟨rfl, rfl, rfl, rfl, rfl, trivial⟩
def w_m_drain_j0 (Q : Mem → Prop) (X10 : Int → Mem → Prop) (x1 : Int) (x2 : Int) (x3 : Int) (x4 : Int) (s0 : Int) (M : Mem) : Prop :=
  (0 ≤ x4 ∧ x4 < 6) ∧ (∀ a2 : Int, a2 = M 73 x4 → 0 ≤ a2 → a2 ≤ 1 → (a2 = 0 → w_m_drain_j1 Q X10 x1 x2 x3 x4 x4 0 M) ∧ (¬ (a2 = 0) → (0 ≤ x4 ∧ x4 < 6) ∧ (∀ a8 : Int, a8 = M 69 x4 → 0 ≤ a8 → a8 ≤ 20000000 → (0 ≤ a8 * s0 ∧ a8 * s0 ≤ 2147483647) ∧ (w_m_drain_j1 Q X10 x1 x2 x3 x4 x4 ((a8 * s0) / 1000) M))))
set_option maxRecDepth 100000 in
set_option maxHeartbeats 4000000 in
theorem s_m_drain_j0 {Q : Mem → Prop} {X10 : Int → Mem → Prop} {x1 : Int} {x2 : Int} {x3 : Int} {x4 : Int} {s0 : Int} {M : Mem} (hC : rC p R s m args meth c cells slots D aC ad 6 cX12_drain RX12 1 23 none) (hQ : ∀ (pc : Nat) (L : List (Nat × RV)) (M : Mem), decode cX12_drain pc = .ok (.return_, 1) → Q M → rG p l e R s m args below meth c cells slots Qs D aC ad 6 pc L [] M) (hX10 : ∀ (x4 : Int) (M : Mem), X10 x4 M → rG p l e R s m args below meth c cells slots Qs D aC ad 6 10 [(0, vR 12), (1, vI x1), (2, vI x2), (3, vI x3), (4, vI x4)] [] M) (hw : w_m_drain_j0 Q X10 x1 x2 x3 x4 s0 M) : rG p l e R s m args below meth c cells slots Qs D aC ad 6 60 [(0, vR 12), (1, vI x1), (2, vI x2), (3, vI x3), (4, vI x4)] [vI s0] M := by
  unfold w_m_drain_j0 at hw
  refine r_istore hC dX12_drain_60 (by decide) ?_
  refine r_aload_n hC dX12_drain_62 rfl rfl ?_
  refine r_getR hC 21 rfl (by decide) kf12_68 rfl rfl dX12_drain_63 ?_
  refine r_iload hC dX12_drain_66 rfl ?_
  refine r_aload_n hC dX12_drain_68 rfl rfl ?_
  refine r_getR hC 24 rfl (by decide) kf12_71 rfl rfl dX12_drain_69 ?_
  refine r_iload hC dX12_drain_72 rfl ?_
  obtain ⟨o1, hw⟩ := hw
  refine r_zald hC rfl o1.1 o1.2 (by decide) (by decide) dX12_drain_74 (fun b3 b3' => ?_)
  replace hw := hw _ rfl b3 b3'
  obtain ⟨hwt, hwf⟩ := hw
  refine r_if_eq hC 95 dX12_drain_75 (by decide) (by omega) (by omega) (fun c6 => ?_) (fun c6 => ?_)
  · have hw := hwt c6
    refine r_iconst hC dX12_drain_95 ?_
    exact r_subk (s_m_drain_j1 hC hQ hX10 hw) ⟨rfl, rfl, rfl, rfl, rfl, trivial⟩
  · have hw := hwf c6
    refine r_aload_n hC dX12_drain_78 rfl rfl ?_
    refine r_getR hC 18 rfl (by decide) kf12_59 rfl rfl dX12_drain_79 ?_
    refine r_iload hC dX12_drain_82 rfl ?_
    obtain ⟨o7, hw⟩ := hw
    refine r_iald hC rfl o7.1 o7.2 (by decide) (by decide) dX12_drain_84 (fun b9 b9' => ?_)
    replace hw := hw _ rfl b9 b9'
    refine r_iload hC dX12_drain_85 rfl ?_
    refine r_imul hC dX12_drain_87 ?_
    refine r_sipush hC dX12_drain_88 (by decide) ?_
    obtain ⟨o10, hw⟩ := hw
    refine r_idiv hC dX12_drain_91 o10.1 o10.2 (by decide) (by decide) ?_
    refine r_goto hC 96 dX12_drain_92 (by decide) ?_
    exact r_subk (s_m_drain_j1 hC hQ hX10 hw) ⟨rfl, rfl, rfl, rfl, rfl, trivial⟩
def w_m_drain_B0 (Q : Mem → Prop) (x1 : Int) (x2 : Int) (x3 : Int) (X10 : Int → Mem → Prop) (x4 : Int) (M : Mem) : Prop :=
  (-2147483648 ≤ x4 ∧ x4 ≤ 2147483647) ∧ ((-2147483648 ≤ x3 ∧ x3 ≤ 2147483647) ∧ ((x3 ≤ x4 → w_m_drain_L1 Q x2 x3 0 M) ∧ (¬ (x3 ≤ x4) → (0 ≤ (6 * x1) + x4 ∧ (6 * x1) + x4 < 36) ∧ (∀ a5 : Int, a5 = M 56 ((6 * x1) + x4) → 0 ≤ a5 → a5 ≤ 3 → ∀ a8 : Int, a8 = M 64 ((5 * a5) + 1) → 0 ≤ a8 → a8 ≤ 999 → ∀ a10 : Int, a10 = M 12 22 → 0 ≤ a10 → a10 ≤ 3000 → (a8 + a10 ≤ 1000 → w_m_drain_j0 Q X10 x1 x2 x3 x4 (a8 + a10) M) ∧ (¬ (a8 + a10 ≤ 1000) → w_m_drain_j0 Q X10 x1 x2 x3 x4 1000 M)))))
set_option maxRecDepth 100000 in
set_option maxHeartbeats 4000000 in
theorem s_m_drain_B0 {Q : Mem → Prop} {x1 : Int} {x2 : Int} {x3 : Int} {X10 : Int → Mem → Prop} {x4 : Int} {M : Mem} (hC : rC p R s m args meth c cells slots D aC ad 6 cX12_drain RX12 1 23 none) (hQ : ∀ (pc : Nat) (L : List (Nat × RV)) (M : Mem), decode cX12_drain pc = .ok (.return_, 1) → Q M → rG p l e R s m args below meth c cells slots Qs D aC ad 6 pc L [] M) (hX10 : ∀ (x4 : Int) (M : Mem), X10 x4 M → rG p l e R s m args below meth c cells slots Qs D aC ad 6 10 [(0, vR 12), (1, vI x1), (2, vI x2), (3, vI x3), (4, vI x4)] [] M) (hw : w_m_drain_B0 Q x1 x2 x3 X10 x4 M) : rG p l e R s m args below meth c cells slots Qs D aC ad 6 10 [(0, vR 12), (1, vI x1), (2, vI x2), (3, vI x3), (4, vI x4)] [] M := by
  unfold w_m_drain_B0 at hw
  refine r_iload hC dX12_drain_10 rfl ?_
  refine r_iload_n hC dX12_drain_12 rfl rfl ?_
  obtain ⟨o1, hw⟩ := hw
  obtain ⟨o2, hw⟩ := hw
  obtain ⟨hwt, hwf⟩ := hw
  refine r_icmp_ge hC 103 dX12_drain_13 (by decide) o1.1 o1.2 o2.1 o2.2 (fun c3 => ?_) (fun c3 => ?_)
  · have hw := hwt c3
    refine r_iconst hC dX12_drain_103 ?_
    refine r_istore hC dX12_drain_104 (by decide) ?_
    exact r_subk (s_m_drain_L1 hC hQ hw) ⟨rfl, rfl, rfl, rfl, trivial⟩
  · have hw := hwf c3
    refine r_aload_n hC dX12_drain_16 rfl rfl ?_
    refine r_getR hC 12 rfl (by decide) kf12_43 rfl rfl dX12_drain_17 ?_
    refine r_iconst hC dX12_drain_20 ?_
    refine r_aload_n hC dX12_drain_21 rfl rfl ?_
    refine r_getR hC 3 rfl (by decide) kf12_19 rfl rfl dX12_drain_22 ?_
    refine r_bipush hC dX12_drain_25 (by decide) ?_
    refine r_iload_n hC dX12_drain_27 rfl rfl ?_
    refine r_imul hC dX12_drain_28 ?_
    refine r_iload hC dX12_drain_29 rfl ?_
    refine r_iadd hC dX12_drain_31 ?_
    obtain ⟨o4, hw⟩ := hw
    refine r_iald hC rfl o4.1 o4.2 (by decide) (by decide) dX12_drain_32 (fun b6 b6' => ?_)
    replace hw := hw _ rfl b6 b6'
    refine r_imul hC dX12_drain_33 ?_
    refine r_iconst hC dX12_drain_34 ?_
    refine r_iadd hC dX12_drain_35 ?_
    refine r_iald hC rfl (by omega) (by omega) (by decide) (by decide) dX12_drain_36 (fun b9 b9' => ?_)
    replace hw := hw _ rfl b9 b9'
    refine r_aload_n hC dX12_drain_37 rfl rfl ?_
    refine r_getI hC 22 rfl (by decide) kf12_229 rfl rfl dX12_drain_38 (fun b11 b11' => ?_)
    replace hw := hw _ rfl b11 b11'
    refine r_iadd hC dX12_drain_41 ?_
    refine r_istore hC dX12_drain_42 (by decide) ?_
    refine r_iload hC dX12_drain_44 rfl ?_
    refine r_sipush hC dX12_drain_46 (by decide) ?_
    obtain ⟨hwt, hwf⟩ := hw
    refine r_icmp_le hC 58 dX12_drain_49 (by decide) (by omega) (by omega) (by decide) (by decide) (fun c14 => ?_) (fun c14 => ?_)
    · have hw := hwt c14
      refine r_iload hC dX12_drain_58 rfl ?_
      exact r_subk (s_m_drain_j0 hC hQ hX10 hw) ⟨rfl, rfl, rfl, rfl, rfl, trivial⟩
    · have hw := hwf c14
      refine r_sipush hC dX12_drain_52 (by decide) ?_
      refine r_goto hC 60 dX12_drain_55 (by decide) ?_
      exact r_subk (s_m_drain_j0 hC hQ hX10 hw) ⟨rfl, rfl, rfl, rfl, rfl, trivial⟩
def w_m_drain_L0 (Q : Mem → Prop) (x1 : Int) (x2 : Int) (x3 : Int) (x4 : Int) (M : Mem) : Prop :=
  ∀ X : Int → Mem → Prop, (∀ (x4 : Int) (M : Mem), w_m_drain_B0 Q x1 x2 x3 X x4 M → X x4 M) → X x4 M
set_option maxRecDepth 100000 in
set_option maxHeartbeats 4000000 in
theorem s_m_drain_L0 {Q : Mem → Prop} {x1 : Int} {x2 : Int} {x3 : Int} {x4 : Int} {M : Mem} (hC : rC p R s m args meth c cells slots D aC ad 6 cX12_drain RX12 1 23 none) (hQ : ∀ (pc : Nat) (L : List (Nat × RV)) (M : Mem), decode cX12_drain pc = .ok (.return_, 1) → Q M → rG p l e R s m args below meth c cells slots Qs D aC ad 6 pc L [] M) (hw : w_m_drain_L0 Q x1 x2 x3 x4 M) : rG p l e R s m args below meth c cells slots Qs D aC ad 6 10 [(0, vR 12), (1, vI x1), (2, vI x2), (3, vI x3), (4, vI x4)] [] M := by
  unfold w_m_drain_L0 at hw
  exact hw (fun x4 M => rG p l e R s m args below meth c cells slots Qs D aC ad 6 10 [(0, vR 12), (1, vI x1), (2, vI x2), (3, vI x3), (4, vI x4)] [] M) (fun x4 M hb => s_m_drain_B0 hC hQ (fun _ _ h => h) hb)
def w_m_drain (M : Mem) (x1 : Int) (x2 : Int) (Q : Mem → Prop) : Prop :=
  (0 ≤ x1 ∧ x1 < 6) ∧ (∀ a2 : Int, a2 = M 55 x1 → 0 ≤ a2 → a2 ≤ 6 → w_m_drain_L0 Q x1 x2 a2 0 M)
set_option maxRecDepth 100000 in
set_option maxHeartbeats 4000000 in
theorem s_m_drain {M : Mem} {x1 : Int} {x2 : Int} {Q : Mem → Prop} (hC : rC p R s m args meth c cells slots D aC ad 6 cX12_drain RX12 1 23 none) (hQ : ∀ (pc : Nat) (L : List (Nat × RV)) (M : Mem), decode cX12_drain pc = .ok (.return_, 1) → Q M → rG p l e R s m args below meth c cells slots Qs D aC ad 6 pc L [] M) (hw : w_m_drain M x1 x2 Q) : rG p l e R s m args below meth c cells slots Qs D aC ad 6 0 [(0, vR 12), (1, vI x1), (2, vI x2)] [] M := by
  unfold w_m_drain at hw
  refine r_aload_n hC dX12_drain_0 rfl rfl ?_
  refine r_getR hC 2 rfl (by decide) kf12_16 rfl rfl dX12_drain_1 ?_
  refine r_iload_n hC dX12_drain_4 rfl rfl ?_
  obtain ⟨o1, hw⟩ := hw
  refine r_iald hC rfl o1.1 o1.2 (by decide) (by decide) dX12_drain_5 (fun b3 b3' => ?_)
  replace hw := hw _ rfl b3 b3'
  refine r_istore_n hC dX12_drain_6 rfl (by decide) ?_
  refine r_iconst hC dX12_drain_7 ?_
  refine r_istore hC dX12_drain_8 (by decide) ?_
  exact r_subk (s_m_drain_L0 hC hQ hw) ⟨rfl, rfl, rfl, rfl, rfl, trivial⟩
set_option maxRecDepth 100000 in
set_option maxHeartbeats 4000000 in
theorem d_m_drain {l : Launch} {D : va_G} {aC : Nat → ClassId} {ad : Nat → Nat} {M : Mem} {x1 : Int} {x2 : Int} {Q : Mem → Prop} (hw : w_m_drain M x1 x2 Q) : Does l D aC ad yX12_drain cX12_drain 6 none 1 23 [vR 12, vI x1, vI x2] M (pV Q) :=
  Does.of (by decide) (Nat.le_of_ble_eq_true rfl) (fun p e R s m args below meth c hC => r_subk (s_m_drain hC (fun pc L M d h => r_vret hC d ⟨rfl, h⟩) hw) ⟨rfl, rfl, rfl, trivial⟩)
theorem dd_12_drain : yX12_drain.cls ≠ "java/lang/invoke/MethodHandle" ∧ yX12_drain.cls ≠ "java/lang/invoke/VarHandle" ∧ (parseMethodDescriptor yX12_drain.desc).map (fun d => d.parameters.length) = some 2 := by decide +kernel
/-- SoupSandModel.runOf -/
def w_m_runOf_B4 (Q : Mem → Prop) (x1 : Int) (x2 : Int) (X309 : Int → Mem → Prop) (x4 : Int) (M : Mem) : Prop :=
  ∀ a2 : Int, a2 = M 64 24 → 0 ≤ a2 → a2 ≤ 999 → (-2147483648 ≤ x4 ∧ x4 ≤ 2147483647) ∧ ((a2 ≤ x4 → Q M) ∧ (¬ (a2 ≤ x4) → (0 ≤ x2 ∧ x2 < 6) ∧ (∀ a8 : Int, a8 = M 62 x2 → 0 ≤ a8 → a8 ≤ 30 → w_m_drain M x1 (a8 + x4) (fun M11 => X309 (x4 + 1) M11))))
set_option maxRecDepth 100000 in
set_option maxHeartbeats 4000000 in
theorem s_m_runOf_B4 {Q : Mem → Prop} {x1 : Int} {x2 : Int} {X309 : Int → Mem → Prop} {x4 : Int} {M : Mem} (hC : rC p R s m args meth c cells slots D aC ad 9 cX12_runOf RX12 4 92 none) (hQ : ∀ (pc : Nat) (L : List (Nat × RV)) (M : Mem), decode cX12_runOf pc = .ok (.return_, 1) → Q M → rG p l e R s m args below meth c cells slots Qs D aC ad 9 pc L [] M) (hX309 : ∀ (x4 : Int) (M : Mem), X309 x4 M → rG p l e R s m args below meth c cells slots Qs D aC ad 9 309 [(0, vR 12), (1, vI x1), (2, vI x2), (4, vI x4)] [] M) (hw : w_m_runOf_B4 Q x1 x2 X309 x4 M) : rG p l e R s m args below meth c cells slots Qs D aC ad 9 309 [(0, vR 12), (1, vI x1), (2, vI x2), (4, vI x4)] [] M := by
  unfold w_m_runOf_B4 at hw
  refine r_iload hC dX12_runOf_309 rfl ?_
  refine r_aload_n hC dX12_runOf_311 rfl rfl ?_
  refine r_getR hC 12 rfl (by decide) kf12_43 rfl rfl dX12_runOf_312 ?_
  refine r_bipush hC dX12_runOf_315 (by decide) ?_
  refine r_iald hC rfl (by decide) (by decide) (by decide) (by decide) dX12_runOf_317 (fun b3 b3' => ?_)
  replace hw := hw _ rfl b3 b3'
  obtain ⟨o4, hw⟩ := hw
  obtain ⟨hwt, hwf⟩ := hw
  refine r_icmp_ge hC 341 dX12_runOf_318 (by decide) o4.1 o4.2 (by omega) (by omega) (fun c6 => ?_) (fun c6 => ?_)
  · have hw := hwt c6
    exact hQ _ _ _ dX12_runOf_341 hw
  · have hw := hwf c6
    refine r_aload_n hC dX12_runOf_321 rfl rfl ?_
    refine r_iload_n hC dX12_runOf_322 rfl rfl ?_
    refine r_aload_n hC dX12_runOf_323 rfl rfl ?_
    refine r_getR hC 10 rfl (by decide) kf12_37 rfl rfl dX12_runOf_324 ?_
    refine r_iload_n hC dX12_runOf_327 rfl rfl ?_
    obtain ⟨o7, hw⟩ := hw
    refine r_iald hC rfl o7.1 o7.2 (by decide) (by decide) dX12_runOf_328 (fun b9 b9' => ?_)
    replace hw := hw _ rfl b9 b9'
    refine r_iload hC dX12_runOf_329 rfl ?_
    refine r_iadd hC dX12_runOf_331 ?_
    refine r_callV hC (d_m_drain hw) rfl kC12_drain km12_239 kI12_drain kS12_drain kN12 dd_12_drain ⟨Nat.le_of_ble_eq_true rfl, Nat.le_of_ble_eq_true rfl⟩ rfl (Nat.le_of_ble_eq_true rfl) dX12_runOf_332 (fun r M' hp => ?_)
    obtain ⟨rfl, hw⟩ := hp
    try dsimp only at hw
    refine r_iinc hC dX12_runOf_335 rfl (by decide) ?_
    refine r_goto hC 309 dX12_runOf_338 (by decide) ?_
    exact r_subk (hX309 _ _ hw) ⟨rfl, rfl, rfl, rfl, trivial⟩
def w_m_runOf_L4 (Q : Mem → Prop) (x1 : Int) (x2 : Int) (x4 : Int) (M : Mem) : Prop :=
  ∀ X : Int → Mem → Prop, (∀ (x4 : Int) (M : Mem), w_m_runOf_B4 Q x1 x2 X x4 M → X x4 M) → X x4 M
set_option maxRecDepth 100000 in
set_option maxHeartbeats 4000000 in
theorem s_m_runOf_L4 {Q : Mem → Prop} {x1 : Int} {x2 : Int} {x4 : Int} {M : Mem} (hC : rC p R s m args meth c cells slots D aC ad 9 cX12_runOf RX12 4 92 none) (hQ : ∀ (pc : Nat) (L : List (Nat × RV)) (M : Mem), decode cX12_runOf pc = .ok (.return_, 1) → Q M → rG p l e R s m args below meth c cells slots Qs D aC ad 9 pc L [] M) (hw : w_m_runOf_L4 Q x1 x2 x4 M) : rG p l e R s m args below meth c cells slots Qs D aC ad 9 309 [(0, vR 12), (1, vI x1), (2, vI x2), (4, vI x4)] [] M := by
  unfold w_m_runOf_L4 at hw
  exact hw (fun x4 M => rG p l e R s m args below meth c cells slots Qs D aC ad 9 309 [(0, vR 12), (1, vI x1), (2, vI x2), (4, vI x4)] [] M) (fun x4 M hb => s_m_runOf_B4 hC hQ (fun _ _ h => h) hb)
def w_m_runOf_j1 (Q : Mem → Prop) (X69 : Int → Mem → Prop) (X171 : Int → Mem → Prop) (x1 : Int) (x2 : Int) (x3 : Int) (x4 : Int) (x6 : Int) (x7 : Int) (s0 : Int) (M : Mem) : Prop :=
  (0 ≤ x6 ∧ x6 < 6) ∧ (∀ a2 : Int, a2 = M 71 x6 → 0 ≤ a2 → a2 ≤ 999 → (0 ≤ x7 ∧ x7 < 36) ∧ (∀ a5 : Int, a5 = M 56 x7 → 0 ≤ a5 → a5 ≤ 3 → ∀ a8 : Int, a8 = M 64 (5 * a5) → 0 ≤ a8 → a8 ≤ 999 → (0 ≤ x6 ∧ x6 < 6) ∧ (∀ a11 : Int, a11 = M 74 x6 → 0 ≤ a11 → a11 ≤ 1000000 → ((0 ≤ (a2 * s0) * a8 ∧ (a2 * s0) * a8 ≤ 2147483647) ∧ (0 < 10 * a11 ∧ 10 * a11 ≤ 2147483647)) ∧ (w_m_grow M x6 (((a2 * s0) * a8) / (10 * a11)) x4 (fun M15 => X171 (x6 + 1) M15)))))
set_option maxRecDepth 100000 in
set_option maxHeartbeats 4000000 in
theorem s_m_runOf_j1 {Q : Mem → Prop} {X69 : Int → Mem → Prop} {X171 : Int → Mem → Prop} {x1 : Int} {x2 : Int} {x3 : Int} {x4 : Int} {x6 : Int} {x7 : Int} {s0 : Int} {M : Mem} (hC : rC p R s m args meth c cells slots D aC ad 9 cX12_runOf RX12 4 92 none) (hQ : ∀ (pc : Nat) (L : List (Nat × RV)) (M : Mem), decode cX12_runOf pc = .ok (.return_, 1) → Q M → rG p l e R s m args below meth c cells slots Qs D aC ad 9 pc L [] M) (hX69 : ∀ (x4 : Int) (M : Mem), X69 x4 M → rG p l e R s m args below meth c cells slots Qs D aC ad 9 69 [(0, vR 12), (1, vI x1), (2, vI x2), (3, vI x3), (4, vI x4)] [] M) (hX171 : ∀ (x6 : Int) (M : Mem), X171 x6 M → rG p l e R s m args below meth c cells slots Qs D aC ad 9 171 [(0, vR 12), (1, vI x1), (2, vI x2), (3, vI x3), (4, vI x4), (6, vI x6)] [] M) (hw : w_m_runOf_j1 Q X69 X171 x1 x2 x3 x4 x6 x7 s0 M) : rG p l e R s m args below meth c cells slots Qs D aC ad 9 241 [(0, vR 12), (1, vI x1), (2, vI x2), (3, vI x3), (4, vI x4), (6, vI x6), (7, vI x7)] [vI s0] M := by
  unfold w_m_runOf_j1 at hw
  refine r_istore hC dX12_runOf_241 (by decide) ?_
  refine r_aload_n hC dX12_runOf_243 rfl rfl ?_
  refine r_iload hC dX12_runOf_244 rfl ?_
  refine r_aload_n hC dX12_runOf_246 rfl rfl ?_
  refine r_getR hC 20 rfl (by decide) kf12_65 rfl rfl dX12_runOf_247 ?_
  refine r_iload hC dX12_runOf_250 rfl ?_
  obtain ⟨o1, hw⟩ := hw
  refine r_iald hC rfl o1.1 o1.2 (by decide) (by decide) dX12_runOf_252 (fun b3 b3' => ?_)
  replace hw := hw _ rfl b3 b3'
  refine r_iload hC dX12_runOf_253 rfl ?_
  refine r_imul hC dX12_runOf_255 ?_
  refine r_aload_n hC dX12_runOf_256 rfl rfl ?_
  refine r_getR hC 12 rfl (by decide) kf12_43 rfl rfl dX12_runOf_257 ?_
  refine r_iconst hC dX12_runOf_260 ?_
  refine r_aload_n hC dX12_runOf_261 rfl rfl ?_
  refine r_getR hC 3 rfl (by decide) kf12_19 rfl rfl dX12_runOf_262 ?_
  refine r_iload hC dX12_runOf_265 rfl ?_
  obtain ⟨o4, hw⟩ := hw
  refine r_iald hC rfl o4.1 o4.2 (by decide) (by decide) dX12_runOf_267 (fun b6 b6' => ?_)
  replace hw := hw _ rfl b6 b6'
  refine r_imul hC dX12_runOf_268 ?_
  refine r_iald hC rfl (by omega) (by omega) (by decide) (by decide) dX12_runOf_269 (fun b9 b9' => ?_)
  replace hw := hw _ rfl b9 b9'
  refine r_imul hC dX12_runOf_270 ?_
  refine r_bipush hC dX12_runOf_271 (by decide) ?_
  refine r_aload_n hC dX12_runOf_273 rfl rfl ?_
  refine r_getR hC 25 rfl (by decide) kf12_74 rfl rfl dX12_runOf_274 ?_
  refine r_iload hC dX12_runOf_277 rfl ?_
  obtain ⟨o10, hw⟩ := hw
  refine r_iald hC rfl o10.1 o10.2 (by decide) (by decide) dX12_runOf_279 (fun b12 b12' => ?_)
  replace hw := hw _ rfl b12 b12'
  refine r_imul hC dX12_runOf_280 ?_
  obtain ⟨o13, hw⟩ := hw
  refine r_idiv hC dX12_runOf_281 o13.1.1 o13.1.2 o13.2.1 o13.2.2 ?_
  refine r_iload hC dX12_runOf_282 rfl ?_
  refine r_callV hC (d_m_grow hw) rfl kC12_grow km12_232 kI12_grow kS12_grow kN12 dd_12_grow ⟨Nat.le_of_ble_eq_true rfl, Nat.le_of_ble_eq_true rfl⟩ rfl (Nat.le_of_ble_eq_true rfl) dX12_runOf_284 (fun r M' hp => ?_)
  obtain ⟨rfl, hw⟩ := hp
  try dsimp only at hw
  refine r_iinc hC dX12_runOf_287 rfl (by decide) ?_
  refine r_goto hC 171 dX12_runOf_290 (by decide) ?_
  exact r_subk (hX171 _ _ hw) ⟨rfl, rfl, rfl, rfl, rfl, rfl, trivial⟩
def w_m_runOf_B3 (Q : Mem → Prop) (X69 : Int → Mem → Prop) (x1 : Int) (x2 : Int) (x3 : Int) (x4 : Int) (X171 : Int → Mem → Prop) (x6 : Int) (M : Mem) : Prop :=
  (-2147483648 ≤ x6 ∧ x6 ≤ 2147483647) ∧ ((-2147483648 ≤ x3 ∧ x3 ≤ 2147483647) ∧ ((x3 ≤ x6 → w_m_drain M x1 x4 (fun M5 => X69 (x4 + 1) M5)) ∧ (¬ (x3 ≤ x6) → (0 ≤ x6 ∧ x6 < 6) ∧ (∀ a7 : Int, a7 = M 73 x6 → 0 ≤ a7 → a7 ≤ 1 → (a7 = 0 → X171 (x6 + 1) M) ∧ (¬ (a7 = 0) → (0 ≤ x6 ∧ x6 < 6) ∧ (∀ a13 : Int, a13 = M 70 x6 → -1 ≤ a13 → a13 ≤ 59 → (0 ≤ a13 → X171 (x6 + 1) M) ∧ (¬ (0 ≤ a13) → (0 ≤ x6 ∧ x6 < 6) ∧ (∀ a19 : Int, a19 = M 68 x6 → 0 ≤ a19 → a19 ≤ 2 → (0 ≤ (3 * ((6 * x1) + x6)) + a19 ∧ (3 * ((6 * x1) + x6)) + a19 < 108) ∧ (∀ a22 : Int, a22 = M 59 ((3 * ((6 * x1) + x6)) + a19) → 0 ≤ a22 → a22 ≤ 100 → ∀ a24 : Int, a24 = M 12 23 → 0 ≤ a24 → a24 ≤ 3000 → (0 ≤ a22 - a24 → w_m_runOf_j1 Q X69 X171 x1 x2 x3 x4 x6 ((6 * x1) + x6) (a22 - a24) M) ∧ (¬ (0 ≤ a22 - a24) → w_m_runOf_j1 Q X69 X171 x1 x2 x3 x4 x6 ((6 * x1) + x6) 0 M))))))))))
set_option maxRecDepth 100000 in
set_option maxHeartbeats 4000000 in
theorem s_m_runOf_B3 {Q : Mem → Prop} {X69 : Int → Mem → Prop} {x1 : Int} {x2 : Int} {x3 : Int} {x4 : Int} {X171 : Int → Mem → Prop} {x6 : Int} {M : Mem} (hC : rC p R s m args meth c cells slots D aC ad 9 cX12_runOf RX12 4 92 none) (hQ : ∀ (pc : Nat) (L : List (Nat × RV)) (M : Mem), decode cX12_runOf pc = .ok (.return_, 1) → Q M → rG p l e R s m args below meth c cells slots Qs D aC ad 9 pc L [] M) (hX69 : ∀ (x4 : Int) (M : Mem), X69 x4 M → rG p l e R s m args below meth c cells slots Qs D aC ad 9 69 [(0, vR 12), (1, vI x1), (2, vI x2), (3, vI x3), (4, vI x4)] [] M) (hX171 : ∀ (x6 : Int) (M : Mem), X171 x6 M → rG p l e R s m args below meth c cells slots Qs D aC ad 9 171 [(0, vR 12), (1, vI x1), (2, vI x2), (3, vI x3), (4, vI x4), (6, vI x6)] [] M) (hw : w_m_runOf_B3 Q X69 x1 x2 x3 x4 X171 x6 M) : rG p l e R s m args below meth c cells slots Qs D aC ad 9 171 [(0, vR 12), (1, vI x1), (2, vI x2), (3, vI x3), (4, vI x4), (6, vI x6)] [] M := by
  unfold w_m_runOf_B3 at hw
  refine r_iload hC dX12_runOf_171 rfl ?_
  refine r_iload_n hC dX12_runOf_173 rfl rfl ?_
  obtain ⟨o1, hw⟩ := hw
  obtain ⟨o2, hw⟩ := hw
  obtain ⟨hwt, hwf⟩ := hw
  refine r_icmp_ge hC 293 dX12_runOf_174 (by decide) o1.1 o1.2 o2.1 o2.2 (fun c3 => ?_) (fun c3 => ?_)
  · have hw := hwt c3
    refine r_aload_n hC dX12_runOf_293 rfl rfl ?_
    refine r_iload_n hC dX12_runOf_294 rfl rfl ?_
    refine r_iload hC dX12_runOf_295 rfl ?_
    refine r_callV hC (d_m_drain hw) rfl kC12_drain km12_239 kI12_drain kS12_drain kN12 dd_12_drain ⟨Nat.le_of_ble_eq_true rfl, Nat.le_of_ble_eq_true rfl⟩ rfl (Nat.le_of_ble_eq_true rfl) dX12_runOf_297 (fun r M' hp => ?_)
    obtain ⟨rfl, hw⟩ := hp
    try dsimp only at hw
    refine r_iinc hC dX12_runOf_300 rfl (by decide) ?_
    refine r_goto hC 69 dX12_runOf_303 (by decide) ?_
    exact r_subk (hX69 _ _ hw) ⟨rfl, rfl, rfl, rfl, rfl, trivial⟩
  · have hw := hwf c3
    refine r_bipush hC dX12_runOf_177 (by decide) ?_
    refine r_iload_n hC dX12_runOf_179 rfl rfl ?_
    refine r_imul hC dX12_runOf_180 ?_
    refine r_iload hC dX12_runOf_181 rfl ?_
    refine r_iadd hC dX12_runOf_183 ?_
    refine r_istore hC dX12_runOf_184 (by decide) ?_
    refine r_aload_n hC dX12_runOf_186 rfl rfl ?_
    refine r_getR hC 24 rfl (by decide) kf12_71 rfl rfl dX12_runOf_187 ?_
    refine r_iload hC dX12_runOf_190 rfl ?_
    obtain ⟨o6, hw⟩ := hw
    refine r_zald hC rfl o6.1 o6.2 (by decide) (by decide) dX12_runOf_192 (fun b8 b8' => ?_)
    replace hw := hw _ rfl b8 b8'
    obtain ⟨hwt, hwf⟩ := hw
    refine r_if_eq hC 287 dX12_runOf_193 (by decide) (by omega) (by omega) (fun c11 => ?_) (fun c11 => ?_)
    · have hw := hwt c11
      refine r_iinc hC dX12_runOf_287 rfl (by decide) ?_
      refine r_goto hC 171 dX12_runOf_290 (by decide) ?_
      exact r_subk (hX171 _ _ hw) ⟨rfl, rfl, rfl, rfl, rfl, rfl, trivial⟩
    · have hw := hwf c11
      refine r_aload_n hC dX12_runOf_196 rfl rfl ?_
      refine r_getR hC 19 rfl (by decide) kf12_62 rfl rfl dX12_runOf_197 ?_
      refine r_iload hC dX12_runOf_200 rfl ?_
      obtain ⟨o12, hw⟩ := hw
      refine r_iald hC rfl o12.1 o12.2 (by decide) (by decide) dX12_runOf_202 (fun b14 b14' => ?_)
      replace hw := hw _ rfl b14 b14'
      obtain ⟨hwt, hwf⟩ := hw
      refine r_if_ge hC 287 dX12_runOf_203 (by decide) (by omega) (by omega) (fun c17 => ?_) (fun c17 => ?_)
      · have hw := hwt c17
        refine r_iinc hC dX12_runOf_287 rfl (by decide) ?_
        refine r_goto hC 171 dX12_runOf_290 (by decide) ?_
        exact r_subk (hX171 _ _ hw) ⟨rfl, rfl, rfl, rfl, rfl, rfl, trivial⟩
      · have hw := hwf c17
        refine r_aload_n hC dX12_runOf_206 rfl rfl ?_
        refine r_getR hC 6 rfl (by decide) kf12_28 rfl rfl dX12_runOf_207 ?_
        refine r_iconst hC dX12_runOf_210 ?_
        refine r_iload hC dX12_runOf_211 rfl ?_
        refine r_imul hC dX12_runOf_213 ?_
        refine r_aload_n hC dX12_runOf_214 rfl rfl ?_
        refine r_getR hC 16 rfl (by decide) kf12_56 rfl rfl dX12_runOf_215 ?_
        refine r_iload hC dX12_runOf_218 rfl ?_
        obtain ⟨o18, hw⟩ := hw
        refine r_iald hC rfl o18.1 o18.2 (by decide) (by decide) dX12_runOf_220 (fun b20 b20' => ?_)
        replace hw := hw _ rfl b20 b20'
        refine r_iadd hC dX12_runOf_221 ?_
        obtain ⟨o21, hw⟩ := hw
        refine r_iald hC rfl o21.1 o21.2 (by decide) (by decide) dX12_runOf_222 (fun b23 b23' => ?_)
        replace hw := hw _ rfl b23 b23'
        refine r_aload_n hC dX12_runOf_223 rfl rfl ?_
        refine r_getI hC 23 rfl (by decide) kf12_236 rfl rfl dX12_runOf_224 (fun b25 b25' => ?_)
        replace hw := hw _ rfl b25 b25'
        refine r_isub hC dX12_runOf_227 ?_
        refine r_istore hC dX12_runOf_228 (by decide) ?_
        refine r_iload hC dX12_runOf_230 rfl ?_
        obtain ⟨hwt, hwf⟩ := hw
        refine r_if_ge hC 239 dX12_runOf_232 (by decide) (by omega) (by omega) (fun c28 => ?_) (fun c28 => ?_)
        · have hw := hwt c28
          refine r_iload hC dX12_runOf_239 rfl ?_
          exact r_subk (s_m_runOf_j1 hC hQ hX69 hX171 hw) ⟨rfl, rfl, rfl, rfl, rfl, rfl, rfl, trivial⟩
        · have hw := hwf c28
          refine r_iconst hC dX12_runOf_235 ?_
          refine r_goto hC 241 dX12_runOf_236 (by decide) ?_
          exact r_subk (s_m_runOf_j1 hC hQ hX69 hX171 hw) ⟨rfl, rfl, rfl, rfl, rfl, rfl, rfl, trivial⟩
def w_m_runOf_L3 (Q : Mem → Prop) (X69 : Int → Mem → Prop) (x1 : Int) (x2 : Int) (x3 : Int) (x4 : Int) (x6 : Int) (M : Mem) : Prop :=
  ∀ X : Int → Mem → Prop, (∀ (x6 : Int) (M : Mem), w_m_runOf_B3 Q X69 x1 x2 x3 x4 X x6 M → X x6 M) → X x6 M
set_option maxRecDepth 100000 in
set_option maxHeartbeats 4000000 in
theorem s_m_runOf_L3 {Q : Mem → Prop} {X69 : Int → Mem → Prop} {x1 : Int} {x2 : Int} {x3 : Int} {x4 : Int} {x6 : Int} {M : Mem} (hC : rC p R s m args meth c cells slots D aC ad 9 cX12_runOf RX12 4 92 none) (hQ : ∀ (pc : Nat) (L : List (Nat × RV)) (M : Mem), decode cX12_runOf pc = .ok (.return_, 1) → Q M → rG p l e R s m args below meth c cells slots Qs D aC ad 9 pc L [] M) (hX69 : ∀ (x4 : Int) (M : Mem), X69 x4 M → rG p l e R s m args below meth c cells slots Qs D aC ad 9 69 [(0, vR 12), (1, vI x1), (2, vI x2), (3, vI x3), (4, vI x4)] [] M) (hw : w_m_runOf_L3 Q X69 x1 x2 x3 x4 x6 M) : rG p l e R s m args below meth c cells slots Qs D aC ad 9 171 [(0, vR 12), (1, vI x1), (2, vI x2), (3, vI x3), (4, vI x4), (6, vI x6)] [] M := by
  unfold w_m_runOf_L3 at hw
  exact hw (fun x6 M => rG p l e R s m args below meth c cells slots Qs D aC ad 9 171 [(0, vR 12), (1, vI x1), (2, vI x2), (3, vI x3), (4, vI x4), (6, vI x6)] [] M) (fun x6 M hb => s_m_runOf_B3 hC hQ hX69 (fun _ _ h => h) hb)
def w_m_runOf_j0 (Q : Mem → Prop) (X69 : Int → Mem → Prop) (X99 : Int → Int → Mem → Prop) (x1 : Int) (x2 : Int) (x3 : Int) (x4 : Int) (x6 : Int) (s0 : Int) (s1 : Int) (M : Mem) : Prop :=
  (0 ≤ s0 * s1 ∧ s0 * s1 ≤ 2147483647) ∧ (X99 ((s0 * s1) / 100) (x6 + (-1)) M)
set_option maxRecDepth 100000 in
set_option maxHeartbeats 4000000 in
theorem s_m_runOf_j0 {Q : Mem → Prop} {X69 : Int → Mem → Prop} {X99 : Int → Int → Mem → Prop} {x1 : Int} {x2 : Int} {x3 : Int} {x4 : Int} {x6 : Int} {s0 : Int} {s1 : Int} {M : Mem} (hC : rC p R s m args meth c cells slots D aC ad 9 cX12_runOf RX12 4 92 none) (hQ : ∀ (pc : Nat) (L : List (Nat × RV)) (M : Mem), decode cX12_runOf pc = .ok (.return_, 1) → Q M → rG p l e R s m args below meth c cells slots Qs D aC ad 9 pc L [] M) (hX69 : ∀ (x4 : Int) (M : Mem), X69 x4 M → rG p l e R s m args below meth c cells slots Qs D aC ad 9 69 [(0, vR 12), (1, vI x1), (2, vI x2), (3, vI x3), (4, vI x4)] [] M) (hX99 : ∀ (x5 : Int) (x6 : Int) (M : Mem), X99 x5 x6 M → rG p l e R s m args below meth c cells slots Qs D aC ad 9 99 [(0, vR 12), (1, vI x1), (2, vI x2), (3, vI x3), (4, vI x4), (5, vI x5), (6, vI x6)] [] M) (hw : w_m_runOf_j0 Q X69 X99 x1 x2 x3 x4 x6 s0 s1 M) : rG p l e R s m args below meth c cells slots Qs D aC ad 9 156 [(0, vR 12), (1, vI x1), (2, vI x2), (3, vI x3), (4, vI x4), (6, vI x6)] [vI s1, vI s0] M := by
  unfold w_m_runOf_j0 at hw
  refine r_imul hC dX12_runOf_156 ?_
  refine r_bipush hC dX12_runOf_157 (by decide) ?_
  obtain ⟨o1, hw⟩ := hw
  refine r_idiv hC dX12_runOf_159 o1.1 o1.2 (by decide) (by decide) ?_
  refine r_istore hC dX12_runOf_160 (by decide) ?_
  refine r_iinc hC dX12_runOf_162 rfl (by decide) ?_
  refine r_goto hC 99 dX12_runOf_165 (by decide) ?_
  exact r_subk (hX99 _ _ _ hw) ⟨rfl, rfl, rfl, rfl, rfl, rfl, rfl, trivial⟩
def w_m_runOf_B2 (Q : Mem → Prop) (X69 : Int → Mem → Prop) (x1 : Int) (x2 : Int) (x3 : Int) (x4 : Int) (X99 : Int → Int → Mem → Prop) (x5 : Int) (x6 : Int) (M : Mem) : Prop :=
  (-2147483648 ≤ x6 ∧ x6 ≤ 2147483647) ∧ ((x6 < 0 → w_m_runOf_L3 Q X69 x1 x2 x3 x4 0 M) ∧ (¬ (x6 < 0) → ((0 ≤ x6 ∧ x6 < 6) ∧ (0 ≤ x5 ∧ x5 ≤ 999)) ∧ (∀ M5 : Mem, M5 = mset M 71 x6 x5 → (0 ≤ x6 ∧ x6 < 6) ∧ (∀ a7 : Int, a7 = M5 70 x6 → -1 ≤ a7 → a7 ≤ 59 → (a7 < 0 → (0 ≤ (6 * x1) + x6 ∧ (6 * x1) + x6 < 36) ∧ (∀ a13 : Int, a13 = M5 56 ((6 * x1) + x6) → 0 ≤ a13 → a13 ≤ 3 → ∀ a16 : Int, a16 = M5 64 ((5 * a13) + 2) → 0 ≤ a16 → a16 ≤ 999 → w_m_runOf_j0 Q X69 X99 x1 x2 x3 x4 x6 x5 a16 M5)) ∧ (¬ (a7 < 0) → ∀ a19 : Int, a19 = M5 64 22 → 0 ≤ a19 → a19 ≤ 999 → w_m_runOf_j0 Q X69 X99 x1 x2 x3 x4 x6 x5 a19 M5)))))
set_option maxRecDepth 100000 in
set_option maxHeartbeats 4000000 in
theorem s_m_runOf_B2 {Q : Mem → Prop} {X69 : Int → Mem → Prop} {x1 : Int} {x2 : Int} {x3 : Int} {x4 : Int} {X99 : Int → Int → Mem → Prop} {x5 : Int} {x6 : Int} {M : Mem} (hC : rC p R s m args meth c cells slots D aC ad 9 cX12_runOf RX12 4 92 none) (hQ : ∀ (pc : Nat) (L : List (Nat × RV)) (M : Mem), decode cX12_runOf pc = .ok (.return_, 1) → Q M → rG p l e R s m args below meth c cells slots Qs D aC ad 9 pc L [] M) (hX69 : ∀ (x4 : Int) (M : Mem), X69 x4 M → rG p l e R s m args below meth c cells slots Qs D aC ad 9 69 [(0, vR 12), (1, vI x1), (2, vI x2), (3, vI x3), (4, vI x4)] [] M) (hX99 : ∀ (x5 : Int) (x6 : Int) (M : Mem), X99 x5 x6 M → rG p l e R s m args below meth c cells slots Qs D aC ad 9 99 [(0, vR 12), (1, vI x1), (2, vI x2), (3, vI x3), (4, vI x4), (5, vI x5), (6, vI x6)] [] M) (hw : w_m_runOf_B2 Q X69 x1 x2 x3 x4 X99 x5 x6 M) : rG p l e R s m args below meth c cells slots Qs D aC ad 9 99 [(0, vR 12), (1, vI x1), (2, vI x2), (3, vI x3), (4, vI x4), (5, vI x5), (6, vI x6)] [] M := by
  unfold w_m_runOf_B2 at hw
  refine r_iload hC dX12_runOf_99 rfl ?_
  obtain ⟨o1, hw⟩ := hw
  obtain ⟨hwt, hwf⟩ := hw
  refine r_if_lt hC 168 dX12_runOf_101 (by decide) o1.1 o1.2 (fun c3 => ?_) (fun c3 => ?_)
  · have hw := hwt c3
    refine r_iconst hC dX12_runOf_168 ?_
    refine r_istore hC dX12_runOf_169 (by decide) ?_
    exact r_subk (s_m_runOf_L3 hC hQ hX69 hw) ⟨rfl, rfl, rfl, rfl, rfl, rfl, trivial⟩
  · have hw := hwf c3
    refine r_aload_n hC dX12_runOf_104 rfl rfl ?_
    refine r_getR hC 20 rfl (by decide) kf12_65 rfl rfl dX12_runOf_105 ?_
    refine r_iload hC dX12_runOf_108 rfl ?_
    refine r_iload hC dX12_runOf_110 rfl ?_
    obtain ⟨o4, hw⟩ := hw
    refine r_iast hC rfl o4.1.1 o4.1.2 (by decide) (by decide) o4.2.1 o4.2.2 dX12_runOf_112 ?_
    replace hw := hw _ rfl
    refine r_iload hC dX12_runOf_113 rfl ?_
    refine r_aload_n hC dX12_runOf_115 rfl rfl ?_
    refine r_getR hC 19 rfl (by decide) kf12_62 rfl rfl dX12_runOf_116 ?_
    refine r_iload hC dX12_runOf_119 rfl ?_
    obtain ⟨o6, hw⟩ := hw
    refine r_iald hC rfl o6.1 o6.2 (by decide) (by decide) dX12_runOf_121 (fun b8 b8' => ?_)
    replace hw := hw _ rfl b8 b8'
    obtain ⟨hwt, hwf⟩ := hw
    refine r_if_lt hC 135 dX12_runOf_122 (by decide) (by omega) (by omega) (fun c11 => ?_) (fun c11 => ?_)
    · have hw := hwt c11
      refine r_aload_n hC dX12_runOf_135 rfl rfl ?_
      refine r_getR hC 12 rfl (by decide) kf12_43 rfl rfl dX12_runOf_136 ?_
      refine r_iconst hC dX12_runOf_139 ?_
      refine r_aload_n hC dX12_runOf_140 rfl rfl ?_
      refine r_getR hC 3 rfl (by decide) kf12_19 rfl rfl dX12_runOf_141 ?_
      refine r_bipush hC dX12_runOf_144 (by decide) ?_
      refine r_iload_n hC dX12_runOf_146 rfl rfl ?_
      refine r_imul hC dX12_runOf_147 ?_
      refine r_iload hC dX12_runOf_148 rfl ?_
      refine r_iadd hC dX12_runOf_150 ?_
      obtain ⟨o12, hw⟩ := hw
      refine r_iald hC rfl o12.1 o12.2 (by decide) (by decide) dX12_runOf_151 (fun b14 b14' => ?_)
      replace hw := hw _ rfl b14 b14'
      refine r_imul hC dX12_runOf_152 ?_
      refine r_iconst hC dX12_runOf_153 ?_
      refine r_iadd hC dX12_runOf_154 ?_
      refine r_iald hC rfl (by omega) (by omega) (by decide) (by decide) dX12_runOf_155 (fun b17 b17' => ?_)
      replace hw := hw _ rfl b17 b17'
      exact r_subk (s_m_runOf_j0 hC hQ hX69 hX99 hw) ⟨rfl, rfl, rfl, rfl, rfl, rfl, trivial⟩
    · have hw := hwf c11
      refine r_aload_n hC dX12_runOf_125 rfl rfl ?_
      refine r_getR hC 12 rfl (by decide) kf12_43 rfl rfl dX12_runOf_126 ?_
      refine r_bipush hC dX12_runOf_129 (by decide) ?_
      refine r_iald hC rfl (by decide) (by decide) (by decide) (by decide) dX12_runOf_131 (fun b20 b20' => ?_)
      replace hw := hw _ rfl b20 b20'
      refine r_goto hC 156 dX12_runOf_132 (by decide) ?_
      exact r_subk (s_m_runOf_j0 hC hQ hX69 hX99 hw) ⟨rfl, rfl, rfl, rfl, rfl, rfl, trivial⟩
def w_m_runOf_L2 (Q : Mem → Prop) (X69 : Int → Mem → Prop) (x1 : Int) (x2 : Int) (x3 : Int) (x4 : Int) (x5 : Int) (x6 : Int) (M : Mem) : Prop :=
  ∀ X : Int → Int → Mem → Prop, (∀ (x5 : Int) (x6 : Int) (M : Mem), w_m_runOf_B2 Q X69 x1 x2 x3 x4 X x5 x6 M → X x5 x6 M) → X x5 x6 M
set_option maxRecDepth 100000 in
set_option maxHeartbeats 4000000 in
theorem s_m_runOf_L2 {Q : Mem → Prop} {X69 : Int → Mem → Prop} {x1 : Int} {x2 : Int} {x3 : Int} {x4 : Int} {x5 : Int} {x6 : Int} {M : Mem} (hC : rC p R s m args meth c cells slots D aC ad 9 cX12_runOf RX12 4 92 none) (hQ : ∀ (pc : Nat) (L : List (Nat × RV)) (M : Mem), decode cX12_runOf pc = .ok (.return_, 1) → Q M → rG p l e R s m args below meth c cells slots Qs D aC ad 9 pc L [] M) (hX69 : ∀ (x4 : Int) (M : Mem), X69 x4 M → rG p l e R s m args below meth c cells slots Qs D aC ad 9 69 [(0, vR 12), (1, vI x1), (2, vI x2), (3, vI x3), (4, vI x4)] [] M) (hw : w_m_runOf_L2 Q X69 x1 x2 x3 x4 x5 x6 M) : rG p l e R s m args below meth c cells slots Qs D aC ad 9 99 [(0, vR 12), (1, vI x1), (2, vI x2), (3, vI x3), (4, vI x4), (5, vI x5), (6, vI x6)] [] M := by
  unfold w_m_runOf_L2 at hw
  exact hw (fun x5 x6 M => rG p l e R s m args below meth c cells slots Qs D aC ad 9 99 [(0, vR 12), (1, vI x1), (2, vI x2), (3, vI x3), (4, vI x4), (5, vI x5), (6, vI x6)] [] M) (fun x5 x6 M hb => s_m_runOf_B2 hC hQ hX69 (fun _ _ _ h => h) hb)
def w_m_runOf_B1 (Q : Mem → Prop) (x1 : Int) (x2 : Int) (x3 : Int) (X69 : Int → Mem → Prop) (x4 : Int) (M : Mem) : Prop :=
  (0 ≤ x2 ∧ x2 < 6) ∧ (∀ a2 : Int, a2 = M 62 x2 → 0 ≤ a2 → a2 ≤ 30 → (-2147483648 ≤ x4 ∧ x4 ≤ 2147483647) ∧ ((a2 ≤ x4 → w_m_runOf_L4 Q x1 x2 0 M) ∧ (¬ (a2 ≤ x4) → (0 ≤ (30 * x2) + x4 ∧ (30 * x2) + x4 < 180) ∧ (∀ a8 : Int, a8 = M 63 ((30 * x2) + x4) → 0 ≤ a8 → a8 ≤ 999 → w_m_runOf_L2 Q X69 x1 x2 x3 x4 a8 (x3 - 1) M))))
set_option maxRecDepth 100000 in
set_option maxHeartbeats 4000000 in
theorem s_m_runOf_B1 {Q : Mem → Prop} {x1 : Int} {x2 : Int} {x3 : Int} {X69 : Int → Mem → Prop} {x4 : Int} {M : Mem} (hC : rC p R s m args meth c cells slots D aC ad 9 cX12_runOf RX12 4 92 none) (hQ : ∀ (pc : Nat) (L : List (Nat × RV)) (M : Mem), decode cX12_runOf pc = .ok (.return_, 1) → Q M → rG p l e R s m args below meth c cells slots Qs D aC ad 9 pc L [] M) (hX69 : ∀ (x4 : Int) (M : Mem), X69 x4 M → rG p l e R s m args below meth c cells slots Qs D aC ad 9 69 [(0, vR 12), (1, vI x1), (2, vI x2), (3, vI x3), (4, vI x4)] [] M) (hw : w_m_runOf_B1 Q x1 x2 x3 X69 x4 M) : rG p l e R s m args below meth c cells slots Qs D aC ad 9 69 [(0, vR 12), (1, vI x1), (2, vI x2), (3, vI x3), (4, vI x4)] [] M := by
  unfold w_m_runOf_B1 at hw
  refine r_iload hC dX12_runOf_69 rfl ?_
  refine r_aload_n hC dX12_runOf_71 rfl rfl ?_
  refine r_getR hC 10 rfl (by decide) kf12_37 rfl rfl dX12_runOf_72 ?_
  refine r_iload_n hC dX12_runOf_75 rfl rfl ?_
  obtain ⟨o1, hw⟩ := hw
  refine r_iald hC rfl o1.1 o1.2 (by decide) (by decide) dX12_runOf_76 (fun b3 b3' => ?_)
  replace hw := hw _ rfl b3 b3'
  obtain ⟨o4, hw⟩ := hw
  obtain ⟨hwt, hwf⟩ := hw
  refine r_icmp_ge hC 306 dX12_runOf_77 (by decide) o4.1 o4.2 (by omega) (by omega) (fun c6 => ?_) (fun c6 => ?_)
  · have hw := hwt c6
    refine r_iconst hC dX12_runOf_306 ?_
    refine r_istore hC dX12_runOf_307 (by decide) ?_
    exact r_subk (s_m_runOf_L4 hC hQ hw) ⟨rfl, rfl, rfl, rfl, trivial⟩
  · have hw := hwf c6
    refine r_aload_n hC dX12_runOf_80 rfl rfl ?_
    refine r_getR hC 11 rfl (by decide) kf12_40 rfl rfl dX12_runOf_81 ?_
    refine r_bipush hC dX12_runOf_84 (by decide) ?_
    refine r_iload_n hC dX12_runOf_86 rfl rfl ?_
    refine r_imul hC dX12_runOf_87 ?_
    refine r_iload hC dX12_runOf_88 rfl ?_
    refine r_iadd hC dX12_runOf_90 ?_
    obtain ⟨o7, hw⟩ := hw
    refine r_iald hC rfl o7.1 o7.2 (by decide) (by decide) dX12_runOf_91 (fun b9 b9' => ?_)
    replace hw := hw _ rfl b9 b9'
    refine r_istore hC dX12_runOf_92 (by decide) ?_
    refine r_iload_n hC dX12_runOf_94 rfl rfl ?_
    refine r_iconst hC dX12_runOf_95 ?_
    refine r_isub hC dX12_runOf_96 ?_
    refine r_istore hC dX12_runOf_97 (by decide) ?_
    exact r_subk (s_m_runOf_L2 hC hQ hX69 hw) ⟨rfl, rfl, rfl, rfl, rfl, rfl, rfl, trivial⟩
def w_m_runOf_L1 (Q : Mem → Prop) (x1 : Int) (x2 : Int) (x3 : Int) (x4 : Int) (M : Mem) : Prop :=
  ∀ X : Int → Mem → Prop, (∀ (x4 : Int) (M : Mem), w_m_runOf_B1 Q x1 x2 x3 X x4 M → X x4 M) → X x4 M
set_option maxRecDepth 100000 in
set_option maxHeartbeats 4000000 in
theorem s_m_runOf_L1 {Q : Mem → Prop} {x1 : Int} {x2 : Int} {x3 : Int} {x4 : Int} {M : Mem} (hC : rC p R s m args meth c cells slots D aC ad 9 cX12_runOf RX12 4 92 none) (hQ : ∀ (pc : Nat) (L : List (Nat × RV)) (M : Mem), decode cX12_runOf pc = .ok (.return_, 1) → Q M → rG p l e R s m args below meth c cells slots Qs D aC ad 9 pc L [] M) (hw : w_m_runOf_L1 Q x1 x2 x3 x4 M) : rG p l e R s m args below meth c cells slots Qs D aC ad 9 69 [(0, vR 12), (1, vI x1), (2, vI x2), (3, vI x3), (4, vI x4)] [] M := by
  unfold w_m_runOf_L1 at hw
  exact hw (fun x4 M => rG p l e R s m args below meth c cells slots Qs D aC ad 9 69 [(0, vR 12), (1, vI x1), (2, vI x2), (3, vI x3), (4, vI x4)] [] M) (fun x4 M hb => s_m_runOf_B1 hC hQ (fun _ _ h => h) hb)
def w_m_runOf_B0 (Q : Mem → Prop) (x1 : Int) (x2 : Int) (x3 : Int) (X10 : Int → Mem → Prop) (x4 : Int) (M : Mem) : Prop :=
  (-2147483648 ≤ x4 ∧ x4 ≤ 2147483647) ∧ ((-2147483648 ≤ x3 ∧ x3 ≤ 2147483647) ∧ ((x3 ≤ x4 → w_m_runOf_L1 Q x1 x2 x3 0 M) ∧ (¬ (x3 ≤ x4) → (0 ≤ x4 ∧ x4 < 6) ∧ (∀ M5 : Mem, M5 = mset M 69 x4 0 → (0 ≤ x4 ∧ x4 < 6) ∧ (∀ M7 : Mem, M7 = mset M5 70 x4 (-1) → w_m_isWet M7 x1 x4 (fun a8 => ((0 ≤ x4 ∧ x4 < 6) ∧ (0 ≤ a8 ∧ a8 ≤ 1)) ∧ (∀ M10 : Mem, M10 = mset M7 73 x4 a8 → w_m_hold M10 x1 x4 (fun a11 => ((0 ≤ x4 ∧ x4 < 6) ∧ (0 ≤ a11 ∧ a11 ≤ 1000000)) ∧ (∀ M13 : Mem, M13 = mset M10 74 x4 a11 → X10 (x4 + 1) M13)))))))))
set_option maxRecDepth 100000 in
set_option maxHeartbeats 4000000 in
theorem s_m_runOf_B0 {Q : Mem → Prop} {x1 : Int} {x2 : Int} {x3 : Int} {X10 : Int → Mem → Prop} {x4 : Int} {M : Mem} (hC : rC p R s m args meth c cells slots D aC ad 9 cX12_runOf RX12 4 92 none) (hQ : ∀ (pc : Nat) (L : List (Nat × RV)) (M : Mem), decode cX12_runOf pc = .ok (.return_, 1) → Q M → rG p l e R s m args below meth c cells slots Qs D aC ad 9 pc L [] M) (hX10 : ∀ (x4 : Int) (M : Mem), X10 x4 M → rG p l e R s m args below meth c cells slots Qs D aC ad 9 10 [(0, vR 12), (1, vI x1), (2, vI x2), (3, vI x3), (4, vI x4)] [] M) (hw : w_m_runOf_B0 Q x1 x2 x3 X10 x4 M) : rG p l e R s m args below meth c cells slots Qs D aC ad 9 10 [(0, vR 12), (1, vI x1), (2, vI x2), (3, vI x3), (4, vI x4)] [] M := by
  unfold w_m_runOf_B0 at hw
  refine r_iload hC dX12_runOf_10 rfl ?_
  refine r_iload_n hC dX12_runOf_12 rfl rfl ?_
  obtain ⟨o1, hw⟩ := hw
  obtain ⟨o2, hw⟩ := hw
  obtain ⟨hwt, hwf⟩ := hw
  refine r_icmp_ge hC 66 dX12_runOf_13 (by decide) o1.1 o1.2 o2.1 o2.2 (fun c3 => ?_) (fun c3 => ?_)
  · have hw := hwt c3
    refine r_iconst hC dX12_runOf_66 ?_
    refine r_istore hC dX12_runOf_67 (by decide) ?_
    exact r_subk (s_m_runOf_L1 hC hQ hw) ⟨rfl, rfl, rfl, rfl, rfl, trivial⟩
  · have hw := hwf c3
    refine r_aload_n hC dX12_runOf_16 rfl rfl ?_
    refine r_getR hC 18 rfl (by decide) kf12_59 rfl rfl dX12_runOf_17 ?_
    refine r_iload hC dX12_runOf_20 rfl ?_
    refine r_iconst hC dX12_runOf_22 ?_
    obtain ⟨o4, hw⟩ := hw
    refine r_iast hC rfl o4.1 o4.2 (by decide) (by decide) (by decide) (by decide) dX12_runOf_23 ?_
    replace hw := hw _ rfl
    refine r_aload_n hC dX12_runOf_24 rfl rfl ?_
    refine r_getR hC 19 rfl (by decide) kf12_62 rfl rfl dX12_runOf_25 ?_
    refine r_iload hC dX12_runOf_28 rfl ?_
    refine r_iconst hC dX12_runOf_30 ?_
    obtain ⟨o6, hw⟩ := hw
    refine r_iast hC rfl o6.1 o6.2 (by decide) (by decide) (by decide) (by decide) dX12_runOf_31 ?_
    replace hw := hw _ rfl
    refine r_aload_n hC dX12_runOf_32 rfl rfl ?_
    refine r_getR hC 24 rfl (by decide) kf12_71 rfl rfl dX12_runOf_33 ?_
    refine r_iload hC dX12_runOf_36 rfl ?_
    refine r_aload_n hC dX12_runOf_38 rfl rfl ?_
    refine r_iload_n hC dX12_runOf_39 rfl rfl ?_
    refine r_iload hC dX12_runOf_40 rfl ?_
    refine r_callV hC (d_m_isWet hw) rfl kC12_isWet km12_196 kI12_isWet kS12_isWet kN12 dd_12_isWet ⟨Nat.le_of_ble_eq_true rfl, Nat.le_of_ble_eq_true rfl⟩ rfl (Nat.le_of_ble_eq_true rfl) dX12_runOf_42 (fun r M' hp => ?_)
    obtain ⟨rfl, a8, rfl, hw⟩ := hp
    try dsimp only at hw
    obtain ⟨o9, hw⟩ := hw
    refine r_zast hC rfl o9.1.1 o9.1.2 (by decide) (by decide) o9.2.1 o9.2.2 (vnar_z o9.2.1 o9.2.2) dX12_runOf_45 ?_
    replace hw := hw _ rfl
    refine r_aload_n hC dX12_runOf_46 rfl rfl ?_
    refine r_getR hC 25 rfl (by decide) kf12_74 rfl rfl dX12_runOf_47 ?_
    refine r_iload hC dX12_runOf_50 rfl ?_
    refine r_aload_n hC dX12_runOf_52 rfl rfl ?_
    refine r_iload_n hC dX12_runOf_53 rfl rfl ?_
    refine r_iload hC dX12_runOf_54 rfl ?_
    refine r_callV hC (d_m_hold hw) rfl kC12_hold km12_202 kI12_hold kS12_hold kN12 dd_12_hold ⟨Nat.le_of_ble_eq_true rfl, Nat.le_of_ble_eq_true rfl⟩ rfl (Nat.le_of_ble_eq_true rfl) dX12_runOf_56 (fun r M' hp => ?_)
    obtain ⟨rfl, a11, rfl, hw⟩ := hp
    try dsimp only at hw
    obtain ⟨o12, hw⟩ := hw
    refine r_iast hC rfl o12.1.1 o12.1.2 (by decide) (by decide) o12.2.1 o12.2.2 dX12_runOf_59 ?_
    replace hw := hw _ rfl
    refine r_iinc hC dX12_runOf_60 rfl (by decide) ?_
    refine r_goto hC 10 dX12_runOf_63 (by decide) ?_
    exact r_subk (hX10 _ _ hw) ⟨rfl, rfl, rfl, rfl, rfl, trivial⟩
def w_m_runOf_L0 (Q : Mem → Prop) (x1 : Int) (x2 : Int) (x3 : Int) (x4 : Int) (M : Mem) : Prop :=
  ∀ X : Int → Mem → Prop, (∀ (x4 : Int) (M : Mem), w_m_runOf_B0 Q x1 x2 x3 X x4 M → X x4 M) → X x4 M
set_option maxRecDepth 100000 in
set_option maxHeartbeats 4000000 in
theorem s_m_runOf_L0 {Q : Mem → Prop} {x1 : Int} {x2 : Int} {x3 : Int} {x4 : Int} {M : Mem} (hC : rC p R s m args meth c cells slots D aC ad 9 cX12_runOf RX12 4 92 none) (hQ : ∀ (pc : Nat) (L : List (Nat × RV)) (M : Mem), decode cX12_runOf pc = .ok (.return_, 1) → Q M → rG p l e R s m args below meth c cells slots Qs D aC ad 9 pc L [] M) (hw : w_m_runOf_L0 Q x1 x2 x3 x4 M) : rG p l e R s m args below meth c cells slots Qs D aC ad 9 10 [(0, vR 12), (1, vI x1), (2, vI x2), (3, vI x3), (4, vI x4)] [] M := by
  unfold w_m_runOf_L0 at hw
  exact hw (fun x4 M => rG p l e R s m args below meth c cells slots Qs D aC ad 9 10 [(0, vR 12), (1, vI x1), (2, vI x2), (3, vI x3), (4, vI x4)] [] M) (fun x4 M hb => s_m_runOf_B0 hC hQ (fun _ _ h => h) hb)
def w_m_runOf (M : Mem) (x1 : Int) (x2 : Int) (Q : Mem → Prop) : Prop :=
  (0 ≤ x1 ∧ x1 < 6) ∧ (∀ a2 : Int, a2 = M 55 x1 → 0 ≤ a2 → a2 ≤ 6 → w_m_runOf_L0 Q x1 x2 a2 0 M)
set_option maxRecDepth 100000 in
set_option maxHeartbeats 4000000 in
theorem s_m_runOf {M : Mem} {x1 : Int} {x2 : Int} {Q : Mem → Prop} (hC : rC p R s m args meth c cells slots D aC ad 9 cX12_runOf RX12 4 92 none) (hQ : ∀ (pc : Nat) (L : List (Nat × RV)) (M : Mem), decode cX12_runOf pc = .ok (.return_, 1) → Q M → rG p l e R s m args below meth c cells slots Qs D aC ad 9 pc L [] M) (hw : w_m_runOf M x1 x2 Q) : rG p l e R s m args below meth c cells slots Qs D aC ad 9 0 [(0, vR 12), (1, vI x1), (2, vI x2)] [] M := by
  unfold w_m_runOf at hw
  refine r_aload_n hC dX12_runOf_0 rfl rfl ?_
  refine r_getR hC 2 rfl (by decide) kf12_16 rfl rfl dX12_runOf_1 ?_
  refine r_iload_n hC dX12_runOf_4 rfl rfl ?_
  obtain ⟨o1, hw⟩ := hw
  refine r_iald hC rfl o1.1 o1.2 (by decide) (by decide) dX12_runOf_5 (fun b3 b3' => ?_)
  replace hw := hw _ rfl b3 b3'
  refine r_istore_n hC dX12_runOf_6 rfl (by decide) ?_
  refine r_iconst hC dX12_runOf_7 ?_
  refine r_istore hC dX12_runOf_8 (by decide) ?_
  exact r_subk (s_m_runOf_L0 hC hQ hw) ⟨rfl, rfl, rfl, rfl, rfl, trivial⟩
set_option maxRecDepth 100000 in
set_option maxHeartbeats 4000000 in
theorem d_m_runOf {l : Launch} {D : va_G} {aC : Nat → ClassId} {ad : Nat → Nat} {M : Mem} {x1 : Int} {x2 : Int} {Q : Mem → Prop} (hw : w_m_runOf M x1 x2 Q) : Does l D aC ad yX12_runOf cX12_runOf 9 none 4 92 [vR 12, vI x1, vI x2] M (pV Q) :=
  Does.of (by decide) (Nat.le_of_ble_eq_true rfl) (fun p e R s m args below meth c hC => r_subk (s_m_runOf hC (fun pc L M d h => r_vret hC d ⟨rfl, h⟩) hw) ⟨rfl, rfl, rfl, trivial⟩)
theorem dd_12_choose : yX12_choose.cls ≠ "java/lang/invoke/MethodHandle" ∧ yX12_choose.cls ≠ "java/lang/invoke/VarHandle" ∧ (parseMethodDescriptor yX12_choose.desc).map (fun d => d.parameters.length) = some 2 := by decide +kernel
theorem dd_12_plain : yX12_plain.cls ≠ "java/lang/invoke/MethodHandle" ∧ yX12_plain.cls ≠ "java/lang/invoke/VarHandle" ∧ (parseMethodDescriptor yX12_plain.desc).map (fun d => d.parameters.length) = some 0 := by decide +kernel
theorem dd_12_runOf : yX12_runOf.cls ≠ "java/lang/invoke/MethodHandle" ∧ yX12_runOf.cls ≠ "java/lang/invoke/VarHandle" ∧ (parseMethodDescriptor yX12_runOf.desc).map (fun d => d.parameters.length) = some 2 := by decide +kernel
/-- SoupSandModel.run -/
def w_m_run (M : Mem) (x1 : Int) (x2 : Int) (x3 : Int) (x4 : Int) (Q : Int → Mem → Prop) : Prop :=
  w_m_isLayer M x1 x3 (fun a1 => (-2147483648 ≤ a1 ∧ a1 ≤ 2147483647) ∧ ((a1 = 0 → Q (-1001) M) ∧ (¬ (a1 = 0) → w_m_isShake M x2 (fun a5 => (-2147483648 ≤ a5 ∧ a5 ≤ 2147483647) ∧ ((¬ (a5 = 0) → (-2147483648 ≤ x4 ∧ x4 ≤ 2147483647) ∧ (w_m_in M x4 0 1 (fun a10 => (-2147483648 ≤ a10 ∧ a10 ≤ 2147483647) ∧ ((¬ (a10 = 0) → w_m_plain M (fun M15 => w_m_choose M15 x1 0 (fun M17 => w_m_runOf M17 x1 x2 (fun M19 => (-2147483648 ≤ x4 ∧ x4 ≤ 2147483647) ∧ ((¬ (x4 = 0) → (0 ≤ x3 ∧ x3 < 6) ∧ (∀ a24 : Int, a24 = M19 70 x3 → -1 ≤ a24 → a24 ≤ 59 → Q a24 M19)) ∧ (x4 = 0 → (0 ≤ x3 ∧ x3 < 6) ∧ (∀ a27 : Int, a27 = M19 69 x3 → 0 ≤ a27 → a27 ≤ 20000000 → Q a27 M19))))))) ∧ (a10 = 0 → Q (-1002) M))))) ∧ (a5 = 0 → Q (-1001) M))))))
set_option maxRecDepth 100000 in
set_option maxHeartbeats 4000000 in
theorem s_m_run {M : Mem} {x1 : Int} {x2 : Int} {x3 : Int} {x4 : Int} {Q : Int → Mem → Prop} (hC : rC p R s m args meth c cells slots D aC ad 5 cX12_run RX12 5 120 (some .int)) (hQ : ∀ (pc : Nat) (L : List (Nat × RV)) (z : Int) (M : Mem), decode cX12_run pc = .ok (.ireturn, 1) → Q z M → rG p l e R s m args below meth c cells slots Qs D aC ad 5 pc L [vI z] M) (hw : w_m_run M x1 x2 x3 x4 Q) : rG p l e R s m args below meth c cells slots Qs D aC ad 5 0 [(0, vR 12), (1, vI x1), (2, vI x2), (3, vI x3), (4, vI x4)] [] M := by
  unfold w_m_run at hw
  refine r_aload_n hC dX12_run_0 rfl rfl ?_
  refine r_iload_n hC dX12_run_1 rfl rfl ?_
  refine r_iload_n hC dX12_run_2 rfl rfl ?_
  refine r_callV hC (d_m_isLayer hw) rfl kC12_isLayer km12_186 kI12_isLayer kS12_isLayer kN12 dd_12_isLayer ⟨Nat.le_of_ble_eq_true rfl, Nat.le_of_ble_eq_true rfl⟩ rfl (Nat.le_of_ble_eq_true rfl) dX12_run_3 (fun r M' hp => ?_)
  obtain ⟨rfl, a1, rfl, hw⟩ := hp
  try dsimp only at hw
  obtain ⟨o2, hw⟩ := hw
  obtain ⟨hwt, hwf⟩ := hw
  refine r_if_eq hC 17 dX12_run_6 (by decide) o2.1 o2.2 (fun c4 => ?_) (fun c4 => ?_)
  · have hw := hwt c4
    refine r_sipush hC dX12_run_17 (by decide) ?_
    exact hQ _ _ _ _ dX12_run_20 hw
  · have hw := hwf c4
    refine r_aload_n hC dX12_run_9 rfl rfl ?_
    refine r_iload_n hC dX12_run_10 rfl rfl ?_
    refine r_callV hC (d_m_isShake hw) rfl kC12_isShake km12_207 kI12_isShake kS12_isShake kN12 dd_12_isShake ⟨Nat.le_of_ble_eq_true rfl, Nat.le_of_ble_eq_true rfl⟩ rfl (Nat.le_of_ble_eq_true rfl) dX12_run_11 (fun r M' hp => ?_)
    obtain ⟨rfl, a5, rfl, hw⟩ := hp
    try dsimp only at hw
    obtain ⟨o6, hw⟩ := hw
    obtain ⟨hwt, hwf⟩ := hw
    refine r_if_ne hC 21 dX12_run_14 (by decide) o6.1 o6.2 (fun c8 => ?_) (fun c8 => ?_)
    · have hw := hwt c8
      refine r_iload hC dX12_run_21 rfl ?_
      obtain ⟨o9, hw⟩ := hw
      refine r_i2l hC dX12_run_23 o9.1 o9.2 ?_
      refine r_lconst hC 0 dX12_run_24 (by decide) ?_
      refine r_lconst hC 1 dX12_run_25 (by decide) ?_
      refine r_callS hC (d_m_in hw) kC12_in km12_165 kT12_in kN12 dd_12_in ⟨Nat.le_of_ble_eq_true rfl, Nat.le_of_ble_eq_true rfl⟩ rfl (Nat.le_of_ble_eq_true rfl) dX12_run_26 (fun r M' hp => ?_)
      obtain ⟨rfl, a10, rfl, hw⟩ := hp
      try dsimp only at hw
      obtain ⟨o11, hw⟩ := hw
      obtain ⟨hwt, hwf⟩ := hw
      refine r_if_ne hC 36 dX12_run_29 (by decide) o11.1 o11.2 (fun c13 => ?_) (fun c13 => ?_)
      · have hw := hwt c13
        refine r_aload_n hC dX12_run_36 rfl rfl ?_
        refine r_callV hC (d_m_plain hw) rfl kC12_plain km12_243 kI12_plain kS12_plain kN12 dd_12_plain ⟨Nat.le_of_ble_eq_true rfl, Nat.le_of_ble_eq_true rfl⟩ rfl (Nat.le_of_ble_eq_true rfl) dX12_run_37 (fun r M' hp => ?_)
        obtain ⟨rfl, hw⟩ := hp
        try dsimp only at hw
        refine r_aload_n hC dX12_run_40 rfl rfl ?_
        refine r_iload_n hC dX12_run_41 rfl rfl ?_
        refine r_iconst hC dX12_run_42 ?_
        refine r_callV hC (d_m_choose hw) rfl kC12_choose km12_246 kI12_choose kS12_choose kN12 dd_12_choose ⟨Nat.le_of_ble_eq_true rfl, Nat.le_of_ble_eq_true rfl⟩ rfl (Nat.le_of_ble_eq_true rfl) dX12_run_43 (fun r M' hp => ?_)
        obtain ⟨rfl, hw⟩ := hp
        try dsimp only at hw
        refine r_aload_n hC dX12_run_46 rfl rfl ?_
        refine r_iload_n hC dX12_run_47 rfl rfl ?_
        refine r_iload_n hC dX12_run_48 rfl rfl ?_
        refine r_callV hC (d_m_runOf hw) rfl kC12_runOf km12_249 kI12_runOf kS12_runOf kN12 dd_12_runOf ⟨Nat.le_of_ble_eq_true rfl, Nat.le_of_ble_eq_true rfl⟩ rfl (Nat.le_of_ble_eq_true rfl) dX12_run_49 (fun r M' hp => ?_)
        obtain ⟨rfl, hw⟩ := hp
        try dsimp only at hw
        refine r_iload hC dX12_run_52 rfl ?_
        obtain ⟨o20, hw⟩ := hw
        obtain ⟨hwt, hwf⟩ := hw
        refine r_if_ne hC 66 dX12_run_54 (by decide) o20.1 o20.2 (fun c22 => ?_) (fun c22 => ?_)
        · have hw := hwt c22
          refine r_aload_n hC dX12_run_66 rfl rfl ?_
          refine r_getR hC 19 rfl (by decide) kf12_62 rfl rfl dX12_run_67 ?_
          refine r_iload_n hC dX12_run_70 rfl rfl ?_
          obtain ⟨o23, hw⟩ := hw
          refine r_iald hC rfl o23.1 o23.2 (by decide) (by decide) dX12_run_71 (fun b25 b25' => ?_)
          replace hw := hw _ rfl b25 b25'
          exact hQ _ _ _ _ dX12_run_72 hw
        · have hw := hwf c22
          refine r_aload_n hC dX12_run_57 rfl rfl ?_
          refine r_getR hC 18 rfl (by decide) kf12_59 rfl rfl dX12_run_58 ?_
          refine r_iload_n hC dX12_run_61 rfl rfl ?_
          obtain ⟨o26, hw⟩ := hw
          refine r_iald hC rfl o26.1 o26.2 (by decide) (by decide) dX12_run_62 (fun b28 b28' => ?_)
          replace hw := hw _ rfl b28 b28'
          refine r_goto hC 72 dX12_run_63 (by decide) ?_
          exact hQ _ _ _ _ dX12_run_72 hw
      · have hw := hwf c13
        refine r_sipush hC dX12_run_32 (by decide) ?_
        exact hQ _ _ _ _ dX12_run_35 hw
    · have hw := hwf c8
      refine r_sipush hC dX12_run_17 (by decide) ?_
      exact hQ _ _ _ _ dX12_run_20 hw
set_option maxRecDepth 100000 in
set_option maxHeartbeats 4000000 in
theorem d_m_run {l : Launch} {D : va_G} {aC : Nat → ClassId} {ad : Nat → Nat} {M : Mem} {x1 : Int} {x2 : Int} {x3 : Int} {x4 : Int} {Q : Int → Mem → Prop} (hw : w_m_run M x1 x2 x3 x4 Q) : Does l D aC ad yX12_run cX12_run 5 (some .int) 5 120 [vR 12, vI x1, vI x2, vI x3, vI x4] M (pI Q) :=
  Does.of (by decide) (Nat.le_of_ble_eq_true rfl) (fun p e R s m args below meth c hC => r_subk (s_m_run hC (fun pc L z M d h => r_iret hC d ⟨z, rfl, h⟩) hw) ⟨rfl, rfl, rfl, rfl, rfl, trivial⟩)
/-- SoupSandModel.word -/
def w_m_word_j1 (Q : Int → Mem → Prop) (x1 : Int) (x2 : Int) (x3 : Int) (x4 : Int) (x5 : Int) (M : Mem) : Prop :=
  ∀ a1 : Int, a1 = M 12 26 → 0 ≤ a1 → a1 ≤ 16 → (¬ (a1 = 16) → ∀ a6 : Int, a6 = M 12 26 → 0 ≤ a6 → a6 ≤ 16 → ((0 ≤ a6 ∧ a6 < 16) ∧ (0 ≤ x1 ∧ x1 ≤ 5)) ∧ (∀ M9 : Mem, M9 = mset M 75 a6 x1 → ∀ a10 : Int, a10 = M9 12 26 → 0 ≤ a10 → a10 ≤ 16 → ((0 ≤ a10 ∧ a10 < 16) ∧ (0 ≤ x2 ∧ x2 ≤ 2)) ∧ (∀ M13 : Mem, M13 = mset M9 76 a10 x2 → ∀ a14 : Int, a14 = M13 12 26 → 0 ≤ a14 → a14 ≤ 16 → ((0 ≤ a14 ∧ a14 < 16) ∧ (0 ≤ x3 ∧ x3 ≤ 5)) ∧ (∀ M17 : Mem, M17 = mset M13 77 a14 x3 → ∀ a18 : Int, a18 = M17 12 26 → 0 ≤ a18 → a18 ≤ 16 → ((0 ≤ a18 ∧ a18 < 16) ∧ (-2147483648 ≤ x4 ∧ x4 ≤ 2147483647)) ∧ (∀ M21 : Mem, M21 = mset M17 78 a18 x4 → ∀ a22 : Int, a22 = M21 12 26 → 0 ≤ a22 → a22 ≤ 16 → ((0 ≤ a22 ∧ a22 < 16) ∧ (-2147483648 ≤ x5 ∧ x5 ≤ 2147483647)) ∧ (∀ M25 : Mem, M25 = mset M21 79 a22 x5 → ∀ a26 : Int, a26 = M25 12 26 → 0 ≤ a26 → a26 ≤ 16 → (0 ≤ a26 ∧ a26 < 16) ∧ (∀ M29 : Mem, M29 = mset M25 80 a26 0 → ∀ a30 : Int, a30 = M29 12 26 → 0 ≤ a30 → a30 ≤ 16 → (0 ≤ a30 + 1 ∧ a30 + 1 ≤ 16) ∧ (∀ M33 : Mem, M33 = mset M29 12 26 (a30 + 1) → w_m_change M33 (fun M35 => ∀ a36 : Int, a36 = M35 12 26 → 0 ≤ a36 → a36 ≤ 16 → Q (a36 - 1) M35))))))))) ∧ (a1 = 16 → Q (-1004) M)
set_option maxRecDepth 100000 in
set_option maxHeartbeats 4000000 in
theorem s_m_word_j1 {Q : Int → Mem → Prop} {x1 : Int} {x2 : Int} {x3 : Int} {x4 : Int} {x5 : Int} {M : Mem} (hC : rC p R s m args meth c cells slots D aC ad 6 cX12_word RX12 3 67 (some .int)) (hQ : ∀ (pc : Nat) (L : List (Nat × RV)) (z : Int) (M : Mem), decode cX12_word pc = .ok (.ireturn, 1) → Q z M → rG p l e R s m args below meth c cells slots Qs D aC ad 6 pc L [vI z] M) (hw : w_m_word_j1 Q x1 x2 x3 x4 x5 M) : rG p l e R s m args below meth c cells slots Qs D aC ad 6 87 [(0, vR 12), (1, vI x1), (2, vI x2), (3, vI x3), (4, vI x4), (5, vI x5)] [] M := by
  unfold w_m_word_j1 at hw
  refine r_aload_n hC dX12_word_87 rfl rfl ?_
  refine r_getI hC 26 rfl (by decide) kf12_210 rfl rfl dX12_word_88 (fun b2 b2' => ?_)
  replace hw := hw _ rfl b2 b2'
  refine r_bipush hC dX12_word_91 (by decide) ?_
  obtain ⟨hwt, hwf⟩ := hw
  refine r_icmp_ne hC 100 dX12_word_93 (by decide) (by omega) (by omega) (by decide) (by decide) (fun c5 => ?_) (fun c5 => ?_)
  · have hw := hwt c5
    refine r_aload_n hC dX12_word_100 rfl rfl ?_
    refine r_getR hC 27 rfl (by decide) kf12_77 rfl rfl dX12_word_101 ?_
    refine r_aload_n hC dX12_word_104 rfl rfl ?_
    refine r_getI hC 26 rfl (by decide) kf12_210 rfl rfl dX12_word_105 (fun b7 b7' => ?_)
    replace hw := hw _ rfl b7 b7'
    refine r_iload_n hC dX12_word_108 rfl rfl ?_
    obtain ⟨o8, hw⟩ := hw
    refine r_iast hC rfl o8.1.1 o8.1.2 (by decide) (by decide) o8.2.1 o8.2.2 dX12_word_109 ?_
    replace hw := hw _ rfl
    refine r_aload_n hC dX12_word_110 rfl rfl ?_
    refine r_getR hC 28 rfl (by decide) kf12_80 rfl rfl dX12_word_111 ?_
    refine r_aload_n hC dX12_word_114 rfl rfl ?_
    refine r_getI hC 26 rfl (by decide) kf12_210 rfl rfl dX12_word_115 (fun b11 b11' => ?_)
    replace hw := hw _ rfl b11 b11'
    refine r_iload_n hC dX12_word_118 rfl rfl ?_
    obtain ⟨o12, hw⟩ := hw
    refine r_iast hC rfl o12.1.1 o12.1.2 (by decide) (by decide) o12.2.1 o12.2.2 dX12_word_119 ?_
    replace hw := hw _ rfl
    refine r_aload_n hC dX12_word_120 rfl rfl ?_
    refine r_getR hC 29 rfl (by decide) kf12_83 rfl rfl dX12_word_121 ?_
    refine r_aload_n hC dX12_word_124 rfl rfl ?_
    refine r_getI hC 26 rfl (by decide) kf12_210 rfl rfl dX12_word_125 (fun b15 b15' => ?_)
    replace hw := hw _ rfl b15 b15'
    refine r_iload_n hC dX12_word_128 rfl rfl ?_
    obtain ⟨o16, hw⟩ := hw
    refine r_iast hC rfl o16.1.1 o16.1.2 (by decide) (by decide) o16.2.1 o16.2.2 dX12_word_129 ?_
    replace hw := hw _ rfl
    refine r_aload_n hC dX12_word_130 rfl rfl ?_
    refine r_getR hC 30 rfl (by decide) kf12_86 rfl rfl dX12_word_131 ?_
    refine r_aload_n hC dX12_word_134 rfl rfl ?_
    refine r_getI hC 26 rfl (by decide) kf12_210 rfl rfl dX12_word_135 (fun b19 b19' => ?_)
    replace hw := hw _ rfl b19 b19'
    refine r_iload hC dX12_word_138 rfl ?_
    obtain ⟨o20, hw⟩ := hw
    refine r_iast hC rfl o20.1.1 o20.1.2 (by decide) (by decide) o20.2.1 o20.2.2 dX12_word_140 ?_
    replace hw := hw _ rfl
    refine r_aload_n hC dX12_word_141 rfl rfl ?_
    refine r_getR hC 31 rfl (by decide) kf12_89 rfl rfl dX12_word_142 ?_
    refine r_aload_n hC dX12_word_145 rfl rfl ?_
    refine r_getI hC 26 rfl (by decide) kf12_210 rfl rfl dX12_word_146 (fun b23 b23' => ?_)
    replace hw := hw _ rfl b23 b23'
    refine r_iload hC dX12_word_149 rfl ?_
    obtain ⟨o24, hw⟩ := hw
    refine r_iast hC rfl o24.1.1 o24.1.2 (by decide) (by decide) o24.2.1 o24.2.2 dX12_word_151 ?_
    replace hw := hw _ rfl
    refine r_aload_n hC dX12_word_152 rfl rfl ?_
    refine r_getR hC 32 rfl (by decide) kf12_92 rfl rfl dX12_word_153 ?_
    refine r_aload_n hC dX12_word_156 rfl rfl ?_
    refine r_getI hC 26 rfl (by decide) kf12_210 rfl rfl dX12_word_157 (fun b27 b27' => ?_)
    replace hw := hw _ rfl b27 b27'
    refine r_iconst hC dX12_word_160 ?_
    obtain ⟨o28, hw⟩ := hw
    refine r_zast hC rfl o28.1 o28.2 (by decide) (by decide) (by decide) (by decide) (vnar_z (by decide) (by decide)) dX12_word_161 ?_
    replace hw := hw _ rfl
    refine r_aload_n hC dX12_word_162 rfl rfl ?_
    refine r_dup hC dX12_word_163 rfl ?_
    refine r_getI hC 26 rfl (by decide) kf12_210 rfl rfl dX12_word_164 (fun b31 b31' => ?_)
    replace hw := hw _ rfl b31 b31'
    refine r_iconst hC dX12_word_167 ?_
    refine r_iadd hC dX12_word_168 ?_
    obtain ⟨o32, hw⟩ := hw
    refine r_putI hC 26 rfl (by decide) kf12_210 rfl rfl o32.1 o32.2 dX12_word_169 ?_
    replace hw := hw _ rfl
    refine r_aload_n hC dX12_word_172 rfl rfl ?_
    refine r_callV hC (d_m_change hw) rfl kC12_change km12_160 kI12_change kS12_change kN12 dd_12_change ⟨Nat.le_of_ble_eq_true rfl, Nat.le_of_ble_eq_true rfl⟩ rfl (Nat.le_of_ble_eq_true rfl) dX12_word_173 (fun r M' hp => ?_)
    obtain ⟨rfl, hw⟩ := hp
    try dsimp only at hw
    refine r_aload_n hC dX12_word_176 rfl rfl ?_
    refine r_getI hC 26 rfl (by decide) kf12_210 rfl rfl dX12_word_177 (fun b37 b37' => ?_)
    replace hw := hw _ rfl b37 b37'
    refine r_iconst hC dX12_word_180 ?_
    refine r_isub hC dX12_word_181 ?_
    exact hQ _ _ _ _ dX12_word_182 hw
  · have hw := hwf c5
    refine r_sipush hC dX12_word_96 (by decide) ?_
    exact hQ _ _ _ _ dX12_word_99 hw
def w_m_word_j0 (Q : Int → Mem → Prop) (x1 : Int) (x2 : Int) (x3 : Int) (x4 : Int) (x5 : Int) (M : Mem) : Prop :=
  (-2147483648 ≤ x2 ∧ x2 ≤ 2147483647) ∧ ((¬ (x2 = 2) → w_m_word_j1 Q x1 x2 x3 x4 x5 M) ∧ (x2 = 2 → (-2147483648 ≤ x5 ∧ x5 ≤ 2147483647) ∧ (w_m_in M x5 0 100 (fun a5 => (-2147483648 ≤ a5 ∧ a5 ≤ 2147483647) ∧ ((a5 = 0 → Q (-1002) M) ∧ (¬ (a5 = 0) → (-2147483648 ≤ x4 ∧ x4 ≤ 2147483647) ∧ ((-2147483648 ≤ x5 ∧ x5 ≤ 2147483647) ∧ (w_m_in M x4 0 x5 (fun a11 => (-2147483648 ≤ a11 ∧ a11 ≤ 2147483647) ∧ ((¬ (a11 = 0) → w_m_word_j1 Q x1 x2 x3 x4 x5 M) ∧ (a11 = 0 → Q (-1002) M)))))))))))
set_option maxRecDepth 100000 in
set_option maxHeartbeats 4000000 in
theorem s_m_word_j0 {Q : Int → Mem → Prop} {x1 : Int} {x2 : Int} {x3 : Int} {x4 : Int} {x5 : Int} {M : Mem} (hC : rC p R s m args meth c cells slots D aC ad 6 cX12_word RX12 3 67 (some .int)) (hQ : ∀ (pc : Nat) (L : List (Nat × RV)) (z : Int) (M : Mem), decode cX12_word pc = .ok (.ireturn, 1) → Q z M → rG p l e R s m args below meth c cells slots Qs D aC ad 6 pc L [vI z] M) (hw : w_m_word_j0 Q x1 x2 x3 x4 x5 M) : rG p l e R s m args below meth c cells slots Qs D aC ad 6 52 [(0, vR 12), (1, vI x1), (2, vI x2), (3, vI x3), (4, vI x4), (5, vI x5)] [] M := by
  unfold w_m_word_j0 at hw
  refine r_iload_n hC dX12_word_52 rfl rfl ?_
  refine r_iconst hC dX12_word_53 ?_
  obtain ⟨o1, hw⟩ := hw
  obtain ⟨hwt, hwf⟩ := hw
  refine r_icmp_ne hC 87 dX12_word_54 (by decide) o1.1 o1.2 (by decide) (by decide) (fun c3 => ?_) (fun c3 => ?_)
  · have hw := hwt c3
    exact r_subk (s_m_word_j1 hC hQ hw) ⟨rfl, rfl, rfl, rfl, rfl, rfl, trivial⟩
  · have hw := hwf c3
    refine r_iload hC dX12_word_57 rfl ?_
    obtain ⟨o4, hw⟩ := hw
    refine r_i2l hC dX12_word_59 o4.1 o4.2 ?_
    refine r_lconst hC 0 dX12_word_60 (by decide) ?_
    refine r_ldc2 hC (100) dX12_word_61 kL12_184 (by decide) ?_
    refine r_callS hC (d_m_in hw) kC12_in km12_165 kT12_in kN12 dd_12_in ⟨Nat.le_of_ble_eq_true rfl, Nat.le_of_ble_eq_true rfl⟩ rfl (Nat.le_of_ble_eq_true rfl) dX12_word_64 (fun r M' hp => ?_)
    obtain ⟨rfl, a5, rfl, hw⟩ := hp
    try dsimp only at hw
    obtain ⟨o6, hw⟩ := hw
    obtain ⟨hwt, hwf⟩ := hw
    refine r_if_eq hC 83 dX12_word_67 (by decide) o6.1 o6.2 (fun c8 => ?_) (fun c8 => ?_)
    · have hw := hwt c8
      refine r_sipush hC dX12_word_83 (by decide) ?_
      exact hQ _ _ _ _ dX12_word_86 hw
    · have hw := hwf c8
      refine r_iload hC dX12_word_70 rfl ?_
      obtain ⟨o9, hw⟩ := hw
      refine r_i2l hC dX12_word_72 o9.1 o9.2 ?_
      refine r_lconst hC 0 dX12_word_73 (by decide) ?_
      refine r_iload hC dX12_word_74 rfl ?_
      obtain ⟨o10, hw⟩ := hw
      refine r_i2l hC dX12_word_76 o10.1 o10.2 ?_
      refine r_callS hC (d_m_in hw) kC12_in km12_165 kT12_in kN12 dd_12_in ⟨Nat.le_of_ble_eq_true rfl, Nat.le_of_ble_eq_true rfl⟩ rfl (Nat.le_of_ble_eq_true rfl) dX12_word_77 (fun r M' hp => ?_)
      obtain ⟨rfl, a11, rfl, hw⟩ := hp
      try dsimp only at hw
      obtain ⟨o12, hw⟩ := hw
      obtain ⟨hwt, hwf⟩ := hw
      refine r_if_ne hC 87 dX12_word_80 (by decide) o12.1 o12.2 (fun c14 => ?_) (fun c14 => ?_)
      · have hw := hwt c14
        exact r_subk (s_m_word_j1 hC hQ hw) ⟨rfl, rfl, rfl, rfl, rfl, rfl, trivial⟩
      · have hw := hwf c14
        refine r_sipush hC dX12_word_83 (by decide) ?_
        exact hQ _ _ _ _ dX12_word_86 hw
def w_m_word (M : Mem) (x1 : Int) (x2 : Int) (x3 : Int) (x4 : Int) (x5 : Int) (Q : Int → Mem → Prop) : Prop :=
  (-2147483648 ≤ x2 ∧ x2 ≤ 2147483647) ∧ (w_m_in M x2 0 2 (fun a2 => (-2147483648 ≤ a2 ∧ a2 ≤ 2147483647) ∧ ((¬ (a2 = 0) → w_m_isColumn M x1 (fun a6 => (-2147483648 ≤ a6 ∧ a6 ≤ 2147483647) ∧ ((a6 = 0 → Q (-1001) M) ∧ (¬ (a6 = 0) → (-2147483648 ≤ x2 ∧ x2 ≤ 2147483647) ∧ ((2 ≤ x2 → w_m_isLayer M x1 x3 (fun a13 => (-2147483648 ≤ a13 ∧ a13 ≤ 2147483647) ∧ ((¬ (a13 = 0) → w_m_word_j0 Q x1 x2 x3 x4 x5 M) ∧ (a13 = 0 → Q (-1001) M)))) ∧ (¬ (2 ≤ x2) → w_m_isShake M x3 (fun a17 => (-2147483648 ≤ a17 ∧ a17 ≤ 2147483647) ∧ ((¬ (a17 = 0) → w_m_word_j0 Q x1 x2 x3 x4 x5 M) ∧ (a17 = 0 → Q (-1001) M))))))))) ∧ (a2 = 0 → Q (-1002) M))))
set_option maxRecDepth 100000 in
set_option maxHeartbeats 4000000 in
theorem s_m_word {M : Mem} {x1 : Int} {x2 : Int} {x3 : Int} {x4 : Int} {x5 : Int} {Q : Int → Mem → Prop} (hC : rC p R s m args meth c cells slots D aC ad 6 cX12_word RX12 3 67 (some .int)) (hQ : ∀ (pc : Nat) (L : List (Nat × RV)) (z : Int) (M : Mem), decode cX12_word pc = .ok (.ireturn, 1) → Q z M → rG p l e R s m args below meth c cells slots Qs D aC ad 6 pc L [vI z] M) (hw : w_m_word M x1 x2 x3 x4 x5 Q) : rG p l e R s m args below meth c cells slots Qs D aC ad 6 0 [(0, vR 12), (1, vI x1), (2, vI x2), (3, vI x3), (4, vI x4), (5, vI x5)] [] M := by
  unfold w_m_word at hw
  refine r_iload_n hC dX12_word_0 rfl rfl ?_
  obtain ⟨o1, hw⟩ := hw
  refine r_i2l hC dX12_word_1 o1.1 o1.2 ?_
  refine r_lconst hC 0 dX12_word_2 (by decide) ?_
  refine r_ldc2 hC (2) dX12_word_3 kL12_252 (by decide) ?_
  refine r_callS hC (d_m_in hw) kC12_in km12_165 kT12_in kN12 dd_12_in ⟨Nat.le_of_ble_eq_true rfl, Nat.le_of_ble_eq_true rfl⟩ rfl (Nat.le_of_ble_eq_true rfl) dX12_word_6 (fun r M' hp => ?_)
  obtain ⟨rfl, a2, rfl, hw⟩ := hp
  try dsimp only at hw
  obtain ⟨o3, hw⟩ := hw
  obtain ⟨hwt, hwf⟩ := hw
  refine r_if_ne hC 16 dX12_word_9 (by decide) o3.1 o3.2 (fun c5 => ?_) (fun c5 => ?_)
  · have hw := hwt c5
    refine r_iload_n hC dX12_word_16 rfl rfl ?_
    refine r_callS hC (d_m_isColumn hw) kC12_isColumn km12_169 kT12_isColumn kN12 dd_12_isColumn ⟨Nat.le_of_ble_eq_true rfl, Nat.le_of_ble_eq_true rfl⟩ rfl (Nat.le_of_ble_eq_true rfl) dX12_word_17 (fun r M' hp => ?_)
    obtain ⟨rfl, a6, rfl, hw⟩ := hp
    try dsimp only at hw
    obtain ⟨o7, hw⟩ := hw
    obtain ⟨hwt, hwf⟩ := hw
    refine r_if_eq hC 48 dX12_word_20 (by decide) o7.1 o7.2 (fun c9 => ?_) (fun c9 => ?_)
    · have hw := hwt c9
      refine r_sipush hC dX12_word_48 (by decide) ?_
      exact hQ _ _ _ _ dX12_word_51 hw
    · have hw := hwf c9
      refine r_iload_n hC dX12_word_23 rfl rfl ?_
      refine r_iconst hC dX12_word_24 ?_
      obtain ⟨o10, hw⟩ := hw
      obtain ⟨hwt, hwf⟩ := hw
      refine r_icmp_ge hC 39 dX12_word_25 (by decide) o10.1 o10.2 (by decide) (by decide) (fun c12 => ?_) (fun c12 => ?_)
      · have hw := hwt c12
        refine r_aload_n hC dX12_word_39 rfl rfl ?_
        refine r_iload_n hC dX12_word_40 rfl rfl ?_
        refine r_iload_n hC dX12_word_41 rfl rfl ?_
        refine r_callV hC (d_m_isLayer hw) rfl kC12_isLayer km12_186 kI12_isLayer kS12_isLayer kN12 dd_12_isLayer ⟨Nat.le_of_ble_eq_true rfl, Nat.le_of_ble_eq_true rfl⟩ rfl (Nat.le_of_ble_eq_true rfl) dX12_word_42 (fun r M' hp => ?_)
        obtain ⟨rfl, a13, rfl, hw⟩ := hp
        try dsimp only at hw
        obtain ⟨o14, hw⟩ := hw
        obtain ⟨hwt, hwf⟩ := hw
        refine r_if_ne hC 52 dX12_word_45 (by decide) o14.1 o14.2 (fun c16 => ?_) (fun c16 => ?_)
        · have hw := hwt c16
          exact r_subk (s_m_word_j0 hC hQ hw) ⟨rfl, rfl, rfl, rfl, rfl, rfl, trivial⟩
        · have hw := hwf c16
          refine r_sipush hC dX12_word_48 (by decide) ?_
          exact hQ _ _ _ _ dX12_word_51 hw
      · have hw := hwf c12
        refine r_aload_n hC dX12_word_28 rfl rfl ?_
        refine r_iload_n hC dX12_word_29 rfl rfl ?_
        refine r_callV hC (d_m_isShake hw) rfl kC12_isShake km12_207 kI12_isShake kS12_isShake kN12 dd_12_isShake ⟨Nat.le_of_ble_eq_true rfl, Nat.le_of_ble_eq_true rfl⟩ rfl (Nat.le_of_ble_eq_true rfl) dX12_word_30 (fun r M' hp => ?_)
        obtain ⟨rfl, a17, rfl, hw⟩ := hp
        try dsimp only at hw
        obtain ⟨o18, hw⟩ := hw
        obtain ⟨hwt, hwf⟩ := hw
        refine r_if_ne hC 52 dX12_word_33 (by decide) o18.1 o18.2 (fun c20 => ?_) (fun c20 => ?_)
        · have hw := hwt c20
          exact r_subk (s_m_word_j0 hC hQ hw) ⟨rfl, rfl, rfl, rfl, rfl, rfl, trivial⟩
        · have hw := hwf c20
          refine r_goto hC 48 dX12_word_36 (by decide) ?_
          refine r_sipush hC dX12_word_48 (by decide) ?_
          exact hQ _ _ _ _ dX12_word_51 hw
  · have hw := hwf c5
    refine r_sipush hC dX12_word_12 (by decide) ?_
    exact hQ _ _ _ _ dX12_word_15 hw
set_option maxRecDepth 100000 in
set_option maxHeartbeats 4000000 in
theorem d_m_word {l : Launch} {D : va_G} {aC : Nat → ClassId} {ad : Nat → Nat} {M : Mem} {x1 : Int} {x2 : Int} {x3 : Int} {x4 : Int} {x5 : Int} {Q : Int → Mem → Prop} (hw : w_m_word M x1 x2 x3 x4 x5 Q) : Does l D aC ad yX12_word cX12_word 6 (some .int) 3 67 [vR 12, vI x1, vI x2, vI x3, vI x4, vI x5] M (pI Q) :=
  Does.of (by decide) (Nat.le_of_ble_eq_true rfl) (fun p e R s m args below meth c hC => r_subk (s_m_word hC (fun pc L z M d h => r_iret hC d ⟨z, rfl, h⟩) hw) ⟨rfl, rfl, rfl, rfl, rfl, rfl, trivial⟩)
/-- SoupSandModel.isWord -/
def w_m_isWord (M : Mem) (x1 : Int) (Q : Int → Prop) : Prop :=
  (-2147483648 ≤ x1 ∧ x1 ≤ 2147483647) ∧ (∀ a2 : Int, a2 = M 12 26 → 0 ≤ a2 → a2 ≤ 16 → w_m_in M x1 0 (a2 - 1) (fun a5 => (0 ≤ a5 ∧ a5 ≤ 1) ∧ (Q a5)))
set_option maxRecDepth 100000 in
set_option maxHeartbeats 4000000 in
theorem s_m_isWord {M : Mem} {x1 : Int} {Q : Int → Prop} (hC : rC p R s m args meth c cells slots D aC ad 2 cX12_isWord RX12 1 25 (some .boolean)) (hQ : ∀ (pc : Nat) (L : List (Nat × RV)) (z : Int), decode cX12_isWord pc = .ok (.ireturn, 1) → 0 ≤ z → z ≤ 1 → Q z → rG p l e R s m args below meth c cells slots Qs D aC ad 2 pc L [vI z] M) (hw : w_m_isWord M x1 Q) : rG p l e R s m args below meth c cells slots Qs D aC ad 2 0 [(0, vR 12), (1, vI x1)] [] M := by
  unfold w_m_isWord at hw
  refine r_iload_n hC dX12_isWord_0 rfl rfl ?_
  obtain ⟨o1, hw⟩ := hw
  refine r_i2l hC dX12_isWord_1 o1.1 o1.2 ?_
  refine r_lconst hC 0 dX12_isWord_2 (by decide) ?_
  refine r_aload_n hC dX12_isWord_3 rfl rfl ?_
  refine r_getI hC 26 rfl (by decide) kf12_210 rfl rfl dX12_isWord_4 (fun b3 b3' => ?_)
  replace hw := hw _ rfl b3 b3'
  refine r_iconst hC dX12_isWord_7 ?_
  refine r_isub hC dX12_isWord_8 ?_
  refine r_i2l hC dX12_isWord_9 (by omega) (by omega) ?_
  refine r_callS hC (d_m_in hw) kC12_in km12_165 kT12_in kN12 dd_12_in ⟨Nat.le_of_ble_eq_true rfl, Nat.le_of_ble_eq_true rfl⟩ rfl (Nat.le_of_ble_eq_true rfl) dX12_isWord_10 (fun r M' hp => ?_)
  obtain ⟨rfl, a5, rfl, hw⟩ := hp
  try dsimp only at hw
  obtain ⟨o6, hw⟩ := hw
  exact hQ _ _ _ dX12_isWord_13 o6.1 o6.2 hw
set_option maxRecDepth 100000 in
set_option maxHeartbeats 4000000 in
theorem d_m_isWord {l : Launch} {D : va_G} {aC : Nat → ClassId} {ad : Nat → Nat} {M : Mem} {x1 : Int} {Q : Int → Prop} (hw : w_m_isWord M x1 Q) : Does l D aC ad yX12_isWord cX12_isWord 2 (some .boolean) 1 25 [vR 12, vI x1] M (qI M Q) :=
  Does.of (by decide) (Nat.le_of_ble_eq_true rfl) (fun p e R s m args below meth c hC => r_subk (s_m_isWord hC (fun pc L z d z1 z2 h => r_zret hC d z1 z2 ⟨rfl, ⟨z, rfl, h⟩⟩) hw) ⟨rfl, rfl, trivial⟩)
theorem dd_12_isWord : yX12_isWord.cls ≠ "java/lang/invoke/MethodHandle" ∧ yX12_isWord.cls ≠ "java/lang/invoke/VarHandle" ∧ (parseMethodDescriptor yX12_isWord.desc).map (fun d => d.parameters.length) = some 1 := by decide +kernel
/-- SoupSandModel.strike -/
def w_m_strike_j0 (Q : Int → Mem → Prop) (x1 : Int) (x2 : Int) (s0 : Int) (M : Mem) : Prop :=
  ((0 ≤ x1 ∧ x1 < 16) ∧ (0 ≤ x2 ∧ x2 ≤ 1)) ∧ (∀ M2 : Mem, M2 = mset M 80 x1 x2 → w_m_change M2 (fun M4 => Q s0 M4))
set_option maxRecDepth 100000 in
set_option maxHeartbeats 4000000 in
theorem s_m_strike_j0 {Q : Int → Mem → Prop} {x1 : Int} {x2 : Int} {s0 : Int} {M : Mem} (hC : rC p R s m args meth c cells slots D aC ad 4 cX12_strike RX12 2 46 (some .int)) (hQ : ∀ (pc : Nat) (L : List (Nat × RV)) (z : Int) (M : Mem), decode cX12_strike pc = .ok (.ireturn, 1) → Q z M → rG p l e R s m args below meth c cells slots Qs D aC ad 4 pc L [vI z] M) (hw : w_m_strike_j0 Q x1 x2 s0 M) : rG p l e R s m args below meth c cells slots Qs D aC ad 4 26 [(0, vR 12), (1, vI x1), (2, vI x2)] [vI s0] M := by
  unfold w_m_strike_j0 at hw
  refine r_istore_n hC dX12_strike_26 rfl (by decide) ?_
  refine r_aload_n hC dX12_strike_27 rfl rfl ?_
  refine r_getR hC 32 rfl (by decide) kf12_92 rfl rfl dX12_strike_28 ?_
  refine r_iload_n hC dX12_strike_31 rfl rfl ?_
  refine r_iload_n hC dX12_strike_32 rfl rfl ?_
  obtain ⟨o1, hw⟩ := hw
  refine r_zast hC rfl o1.1.1 o1.1.2 (by decide) (by decide) o1.2.1 o1.2.2 (vnar_z o1.2.1 o1.2.2) dX12_strike_33 ?_
  replace hw := hw _ rfl
  refine r_aload_n hC dX12_strike_34 rfl rfl ?_
  refine r_callV hC (d_m_change hw) rfl kC12_change km12_160 kI12_change kS12_change kN12 dd_12_change ⟨Nat.le_of_ble_eq_true rfl, Nat.le_of_ble_eq_true rfl⟩ rfl (Nat.le_of_ble_eq_true rfl) dX12_strike_35 (fun r M' hp => ?_)
  obtain ⟨rfl, hw⟩ := hp
  try dsimp only at hw
  refine r_iload_n hC dX12_strike_38 rfl rfl ?_
  exact hQ _ _ _ _ dX12_strike_39 hw
def w_m_strike (M : Mem) (x1 : Int) (x2 : Int) (Q : Int → Mem → Prop) : Prop :=
  w_m_isWord M x1 (fun a1 => (-2147483648 ≤ a1 ∧ a1 ≤ 2147483647) ∧ ((¬ (a1 = 0) → (0 ≤ x1 ∧ x1 < 16) ∧ (∀ a6 : Int, a6 = M 80 x1 → 0 ≤ a6 → a6 ≤ 1 → (a6 = 0 → w_m_strike_j0 Q x1 x2 0 M) ∧ (¬ (a6 = 0) → w_m_strike_j0 Q x1 x2 1 M))) ∧ (a1 = 0 → Q (-1001) M)))
set_option maxRecDepth 100000 in
set_option maxHeartbeats 4000000 in
theorem s_m_strike {M : Mem} {x1 : Int} {x2 : Int} {Q : Int → Mem → Prop} (hC : rC p R s m args meth c cells slots D aC ad 4 cX12_strike RX12 2 46 (some .int)) (hQ : ∀ (pc : Nat) (L : List (Nat × RV)) (z : Int) (M : Mem), decode cX12_strike pc = .ok (.ireturn, 1) → Q z M → rG p l e R s m args below meth c cells slots Qs D aC ad 4 pc L [vI z] M) (hw : w_m_strike M x1 x2 Q) : rG p l e R s m args below meth c cells slots Qs D aC ad 4 0 [(0, vR 12), (1, vI x1), (2, vI x2)] [] M := by
  unfold w_m_strike at hw
  refine r_aload_n hC dX12_strike_0 rfl rfl ?_
  refine r_iload_n hC dX12_strike_1 rfl rfl ?_
  refine r_callV hC (d_m_isWord hw) rfl kC12_isWord km12_254 kI12_isWord kS12_isWord kN12 dd_12_isWord ⟨Nat.le_of_ble_eq_true rfl, Nat.le_of_ble_eq_true rfl⟩ rfl (Nat.le_of_ble_eq_true rfl) dX12_strike_2 (fun r M' hp => ?_)
  obtain ⟨rfl, a1, rfl, hw⟩ := hp
  try dsimp only at hw
  obtain ⟨o2, hw⟩ := hw
  obtain ⟨hwt, hwf⟩ := hw
  refine r_if_ne hC 12 dX12_strike_5 (by decide) o2.1 o2.2 (fun c4 => ?_) (fun c4 => ?_)
  · have hw := hwt c4
    refine r_aload_n hC dX12_strike_12 rfl rfl ?_
    refine r_getR hC 32 rfl (by decide) kf12_92 rfl rfl dX12_strike_13 ?_
    refine r_iload_n hC dX12_strike_16 rfl rfl ?_
    obtain ⟨o5, hw⟩ := hw
    refine r_zald hC rfl o5.1 o5.2 (by decide) (by decide) dX12_strike_17 (fun b7 b7' => ?_)
    replace hw := hw _ rfl b7 b7'
    obtain ⟨hwt, hwf⟩ := hw
    refine r_if_eq hC 25 dX12_strike_18 (by decide) (by omega) (by omega) (fun c10 => ?_) (fun c10 => ?_)
    · have hw := hwt c10
      refine r_iconst hC dX12_strike_25 ?_
      exact r_subk (s_m_strike_j0 hC hQ hw) ⟨rfl, rfl, rfl, trivial⟩
    · have hw := hwf c10
      refine r_iconst hC dX12_strike_21 ?_
      refine r_goto hC 26 dX12_strike_22 (by decide) ?_
      exact r_subk (s_m_strike_j0 hC hQ hw) ⟨rfl, rfl, rfl, trivial⟩
  · have hw := hwf c4
    refine r_sipush hC dX12_strike_8 (by decide) ?_
    exact hQ _ _ _ _ dX12_strike_11 hw
set_option maxRecDepth 100000 in
set_option maxHeartbeats 4000000 in
theorem d_m_strike {l : Launch} {D : va_G} {aC : Nat → ClassId} {ad : Nat → Nat} {M : Mem} {x1 : Int} {x2 : Int} {Q : Int → Mem → Prop} (hw : w_m_strike M x1 x2 Q) : Does l D aC ad yX12_strike cX12_strike 4 (some .int) 2 46 [vR 12, vI x1, vI x2] M (pI Q) :=
  Does.of (by decide) (Nat.le_of_ble_eq_true rfl) (fun p e R s m args below meth c hC => r_subk (s_m_strike hC (fun pc L z M d h => r_iret hC d ⟨z, rfl, h⟩) hw) ⟨rfl, rfl, rfl, trivial⟩)
/-- SoupSandModel.manyChoices -/
def w_m_manyChoices_B0 (Q : Int → Prop) (x1 : Int) (M : Mem) (X4 : Int → Int → Prop) (x2 : Int) (x3 : Int) : Prop :=
  (0 ≤ x1 ∧ x1 < 6) ∧ (∀ a2 : Int, a2 = M 55 x1 → 0 ≤ a2 → a2 ≤ 6 → (-2147483648 ≤ x3 ∧ x3 ≤ 2147483647) ∧ ((a2 ≤ x3 → Q x2) ∧ (¬ (a2 ≤ x3) → (0 ≤ (6 * x1) + x3 ∧ (6 * x1) + x3 < 36) ∧ (∀ a8 : Int, a8 = M 58 ((6 * x1) + x3) → 0 ≤ a8 → a8 ≤ 3 → X4 (x2 * a8) (x3 + 1)))))
set_option maxRecDepth 100000 in
set_option maxHeartbeats 4000000 in
theorem s_m_manyChoices_B0 {Q : Int → Prop} {x1 : Int} {M : Mem} {X4 : Int → Int → Prop} {x2 : Int} {x3 : Int} (hC : rC p R s m args meth c cells slots D aC ad 4 cX12_manyChoices RX12 0 0 (some .int)) (hQ : ∀ (pc : Nat) (L : List (Nat × RV)) (z : Int), decode cX12_manyChoices pc = .ok (.ireturn, 1) → Q z → rG p l e R s m args below meth c cells slots Qs D aC ad 4 pc L [vI z] M) (hX4 : ∀ (x2 : Int) (x3 : Int), X4 x2 x3 → rG p l e R s m args below meth c cells slots Qs D aC ad 4 4 [(0, vR 12), (1, vI x1), (2, vI x2), (3, vI x3)] [] M) (hw : w_m_manyChoices_B0 Q x1 M X4 x2 x3) : rG p l e R s m args below meth c cells slots Qs D aC ad 4 4 [(0, vR 12), (1, vI x1), (2, vI x2), (3, vI x3)] [] M := by
  unfold w_m_manyChoices_B0 at hw
  refine r_iload_n hC dX12_manyChoices_4 rfl rfl ?_
  refine r_aload_n hC dX12_manyChoices_5 rfl rfl ?_
  refine r_getR hC 2 rfl (by decide) kf12_16 rfl rfl dX12_manyChoices_6 ?_
  refine r_iload_n hC dX12_manyChoices_9 rfl rfl ?_
  obtain ⟨o1, hw⟩ := hw
  refine r_iald hC rfl o1.1 o1.2 (by decide) (by decide) dX12_manyChoices_10 (fun b3 b3' => ?_)
  replace hw := hw _ rfl b3 b3'
  obtain ⟨o4, hw⟩ := hw
  obtain ⟨hwt, hwf⟩ := hw
  refine r_icmp_ge hC 34 dX12_manyChoices_11 (by decide) o4.1 o4.2 (by omega) (by omega) (fun c6 => ?_) (fun c6 => ?_)
  · have hw := hwt c6
    refine r_iload_n hC dX12_manyChoices_34 rfl rfl ?_
    exact hQ _ _ _ dX12_manyChoices_35 hw
  · have hw := hwf c6
    refine r_iload_n hC dX12_manyChoices_14 rfl rfl ?_
    refine r_aload_n hC dX12_manyChoices_15 rfl rfl ?_
    refine r_getR hC 5 rfl (by decide) kf12_25 rfl rfl dX12_manyChoices_16 ?_
    refine r_bipush hC dX12_manyChoices_19 (by decide) ?_
    refine r_iload_n hC dX12_manyChoices_21 rfl rfl ?_
    refine r_imul hC dX12_manyChoices_22 ?_
    refine r_iload_n hC dX12_manyChoices_23 rfl rfl ?_
    refine r_iadd hC dX12_manyChoices_24 ?_
    obtain ⟨o7, hw⟩ := hw
    refine r_iald hC rfl o7.1 o7.2 (by decide) (by decide) dX12_manyChoices_25 (fun b9 b9' => ?_)
    replace hw := hw _ rfl b9 b9'
    refine r_imul hC dX12_manyChoices_26 ?_
    refine r_istore_n hC dX12_manyChoices_27 rfl (by decide) ?_
    refine r_iinc hC dX12_manyChoices_28 rfl (by decide) ?_
    refine r_goto hC 4 dX12_manyChoices_31 (by decide) ?_
    exact r_subk (hX4 _ _ hw) ⟨rfl, rfl, rfl, rfl, trivial⟩
def w_m_manyChoices_L0 (Q : Int → Prop) (x1 : Int) (M : Mem) (x2 : Int) (x3 : Int) : Prop :=
  ∀ X : Int → Int → Prop, (∀ (x2 : Int) (x3 : Int), w_m_manyChoices_B0 Q x1 M X x2 x3 → X x2 x3) → X x2 x3
set_option maxRecDepth 100000 in
set_option maxHeartbeats 4000000 in
theorem s_m_manyChoices_L0 {Q : Int → Prop} {x1 : Int} {M : Mem} {x2 : Int} {x3 : Int} (hC : rC p R s m args meth c cells slots D aC ad 4 cX12_manyChoices RX12 0 0 (some .int)) (hQ : ∀ (pc : Nat) (L : List (Nat × RV)) (z : Int), decode cX12_manyChoices pc = .ok (.ireturn, 1) → Q z → rG p l e R s m args below meth c cells slots Qs D aC ad 4 pc L [vI z] M) (hw : w_m_manyChoices_L0 Q x1 M x2 x3) : rG p l e R s m args below meth c cells slots Qs D aC ad 4 4 [(0, vR 12), (1, vI x1), (2, vI x2), (3, vI x3)] [] M := by
  unfold w_m_manyChoices_L0 at hw
  exact hw (fun x2 x3 => rG p l e R s m args below meth c cells slots Qs D aC ad 4 4 [(0, vR 12), (1, vI x1), (2, vI x2), (3, vI x3)] [] M) (fun x2 x3 hb => s_m_manyChoices_B0 hC hQ (fun _ _ h => h) hb)
def w_m_manyChoices (M : Mem) (x1 : Int) (Q : Int → Prop) : Prop :=
  w_m_manyChoices_L0 Q x1 M 1 0
set_option maxRecDepth 100000 in
set_option maxHeartbeats 4000000 in
theorem s_m_manyChoices {M : Mem} {x1 : Int} {Q : Int → Prop} (hC : rC p R s m args meth c cells slots D aC ad 4 cX12_manyChoices RX12 0 0 (some .int)) (hQ : ∀ (pc : Nat) (L : List (Nat × RV)) (z : Int), decode cX12_manyChoices pc = .ok (.ireturn, 1) → Q z → rG p l e R s m args below meth c cells slots Qs D aC ad 4 pc L [vI z] M) (hw : w_m_manyChoices M x1 Q) : rG p l e R s m args below meth c cells slots Qs D aC ad 4 0 [(0, vR 12), (1, vI x1)] [] M := by
  unfold w_m_manyChoices at hw
  refine r_iconst hC dX12_manyChoices_0 ?_
  refine r_istore_n hC dX12_manyChoices_1 rfl (by decide) ?_
  refine r_iconst hC dX12_manyChoices_2 ?_
  refine r_istore_n hC dX12_manyChoices_3 rfl (by decide) ?_
  exact r_subk (s_m_manyChoices_L0 hC hQ hw) ⟨rfl, rfl, rfl, rfl, trivial⟩
set_option maxRecDepth 100000 in
set_option maxHeartbeats 4000000 in
theorem d_m_manyChoices {l : Launch} {D : va_G} {aC : Nat → ClassId} {ad : Nat → Nat} {M : Mem} {x1 : Int} {Q : Int → Prop} (hw : w_m_manyChoices M x1 Q) : Does l D aC ad yX12_manyChoices cX12_manyChoices 4 (some .int) 0 0 [vR 12, vI x1] M (qI M Q) :=
  Does.of (by decide) (Nat.le_of_ble_eq_true rfl) (fun p e R s m args below meth c hC => r_subk (s_m_manyChoices hC (fun pc L z d h => r_iret hC d ⟨rfl, ⟨z, rfl, h⟩⟩) hw) ⟨rfl, rfl, trivial⟩)
/-- SoupSandModel.forget -/
def w_m_forget_B0 (Q : Mem → Prop) (X2 : Int → Mem → Prop) (x1 : Int) (M : Mem) : Prop :=
  (-2147483648 ≤ x1 ∧ x1 ≤ 2147483647) ∧ ((6 ≤ x1 → Q M) ∧ (¬ (6 ≤ x1) → (0 ≤ x1 ∧ x1 < 6) ∧ (∀ M5 : Mem, M5 = mset M 81 x1 (-1) → X2 (x1 + 1) M5)))
set_option maxRecDepth 100000 in
set_option maxHeartbeats 4000000 in
theorem s_m_forget_B0 {Q : Mem → Prop} {X2 : Int → Mem → Prop} {x1 : Int} {M : Mem} (hC : rC p R s m args meth c cells slots D aC ad 2 cX12_forget RX12 0 0 none) (hQ : ∀ (pc : Nat) (L : List (Nat × RV)) (M : Mem), decode cX12_forget pc = .ok (.return_, 1) → Q M → rG p l e R s m args below meth c cells slots Qs D aC ad 2 pc L [] M) (hX2 : ∀ (x1 : Int) (M : Mem), X2 x1 M → rG p l e R s m args below meth c cells slots Qs D aC ad 2 2 [(0, vR 12), (1, vI x1)] [] M) (hw : w_m_forget_B0 Q X2 x1 M) : rG p l e R s m args below meth c cells slots Qs D aC ad 2 2 [(0, vR 12), (1, vI x1)] [] M := by
  unfold w_m_forget_B0 at hw
  refine r_iload_n hC dX12_forget_2 rfl rfl ?_
  refine r_bipush hC dX12_forget_3 (by decide) ?_
  obtain ⟨o1, hw⟩ := hw
  obtain ⟨hwt, hwf⟩ := hw
  refine r_icmp_ge hC 21 dX12_forget_5 (by decide) o1.1 o1.2 (by decide) (by decide) (fun c3 => ?_) (fun c3 => ?_)
  · have hw := hwt c3
    exact hQ _ _ _ dX12_forget_21 hw
  · have hw := hwf c3
    refine r_aload_n hC dX12_forget_8 rfl rfl ?_
    refine r_getR hC 33 rfl (by decide) kf12_95 rfl rfl dX12_forget_9 ?_
    refine r_iload_n hC dX12_forget_12 rfl rfl ?_
    refine r_iconst hC dX12_forget_13 ?_
    obtain ⟨o4, hw⟩ := hw
    refine r_iast hC rfl o4.1 o4.2 (by decide) (by decide) (by decide) (by decide) dX12_forget_14 ?_
    replace hw := hw _ rfl
    refine r_iinc hC dX12_forget_15 rfl (by decide) ?_
    refine r_goto hC 2 dX12_forget_18 (by decide) ?_
    exact r_subk (hX2 _ _ hw) ⟨rfl, rfl, trivial⟩
def w_m_forget_L0 (Q : Mem → Prop) (x1 : Int) (M : Mem) : Prop :=
  ∀ X : Int → Mem → Prop, (∀ (x1 : Int) (M : Mem), w_m_forget_B0 Q X x1 M → X x1 M) → X x1 M
set_option maxRecDepth 100000 in
set_option maxHeartbeats 4000000 in
theorem s_m_forget_L0 {Q : Mem → Prop} {x1 : Int} {M : Mem} (hC : rC p R s m args meth c cells slots D aC ad 2 cX12_forget RX12 0 0 none) (hQ : ∀ (pc : Nat) (L : List (Nat × RV)) (M : Mem), decode cX12_forget pc = .ok (.return_, 1) → Q M → rG p l e R s m args below meth c cells slots Qs D aC ad 2 pc L [] M) (hw : w_m_forget_L0 Q x1 M) : rG p l e R s m args below meth c cells slots Qs D aC ad 2 2 [(0, vR 12), (1, vI x1)] [] M := by
  unfold w_m_forget_L0 at hw
  exact hw (fun x1 M => rG p l e R s m args below meth c cells slots Qs D aC ad 2 2 [(0, vR 12), (1, vI x1)] [] M) (fun x1 M hb => s_m_forget_B0 hC hQ (fun _ _ h => h) hb)
def w_m_forget (M : Mem) (Q : Mem → Prop) : Prop :=
  w_m_forget_L0 Q 0 M
set_option maxRecDepth 100000 in
set_option maxHeartbeats 4000000 in
theorem s_m_forget {M : Mem} {Q : Mem → Prop} (hC : rC p R s m args meth c cells slots D aC ad 2 cX12_forget RX12 0 0 none) (hQ : ∀ (pc : Nat) (L : List (Nat × RV)) (M : Mem), decode cX12_forget pc = .ok (.return_, 1) → Q M → rG p l e R s m args below meth c cells slots Qs D aC ad 2 pc L [] M) (hw : w_m_forget M Q) : rG p l e R s m args below meth c cells slots Qs D aC ad 2 0 [(0, vR 12)] [] M := by
  unfold w_m_forget at hw
  refine r_iconst hC dX12_forget_0 ?_
  refine r_istore_n hC dX12_forget_1 rfl (by decide) ?_
  exact r_subk (s_m_forget_L0 hC hQ hw) ⟨rfl, rfl, trivial⟩
set_option maxRecDepth 100000 in
set_option maxHeartbeats 4000000 in
theorem d_m_forget {l : Launch} {D : va_G} {aC : Nat → ClassId} {ad : Nat → Nat} {M : Mem} {Q : Mem → Prop} (hw : w_m_forget M Q) : Does l D aC ad yX12_forget cX12_forget 2 none 0 0 [vR 12] M (pV Q) :=
  Does.of (by decide) (Nat.le_of_ble_eq_true rfl) (fun p e R s m args below meth c hC => r_subk (s_m_forget hC (fun pc L M d h => r_vret hC d ⟨rfl, h⟩) hw) ⟨rfl, trivial⟩)
/-- SoupSandModel.letsGo -/
def w_m_letsGo_B0 (Q : Int → Prop) (x1 : Int) (M : Mem) (X4 : Int → Int → Prop) (x2 : Int) (x3 : Int) : Prop :=
  (0 ≤ x1 ∧ x1 < 6) ∧ (∀ a2 : Int, a2 = M 55 x1 → 0 ≤ a2 → a2 ≤ 6 → (-2147483648 ≤ x3 ∧ x3 ≤ 2147483647) ∧ ((a2 ≤ x3 → (0 ≤ x2 ∧ x2 ≤ 1) ∧ (Q x2)) ∧ (¬ (a2 ≤ x3) → (-2147483648 ≤ x2 ∧ x2 ≤ 2147483647) ∧ ((¬ (x2 = 0) → X4 1 (x3 + 1)) ∧ (x2 = 0 → (0 ≤ x3 ∧ x3 < 6) ∧ (∀ a12 : Int, a12 = M 70 x3 → -1 ≤ a12 → a12 ≤ 59 → (a12 < 0 → X4 0 (x3 + 1)) ∧ (¬ (a12 < 0) → X4 1 (x3 + 1))))))))
set_option maxRecDepth 100000 in
set_option maxHeartbeats 4000000 in
theorem s_m_letsGo_B0 {Q : Int → Prop} {x1 : Int} {M : Mem} {X4 : Int → Int → Prop} {x2 : Int} {x3 : Int} (hC : rC p R s m args meth c cells slots D aC ad 4 cX12_letsGo RX12 0 0 (some .boolean)) (hQ : ∀ (pc : Nat) (L : List (Nat × RV)) (z : Int), decode cX12_letsGo pc = .ok (.ireturn, 1) → 0 ≤ z → z ≤ 1 → Q z → rG p l e R s m args below meth c cells slots Qs D aC ad 4 pc L [vI z] M) (hX4 : ∀ (x2 : Int) (x3 : Int), X4 x2 x3 → rG p l e R s m args below meth c cells slots Qs D aC ad 4 4 [(0, vR 12), (1, vI x1), (2, vI x2), (3, vI x3)] [] M) (hw : w_m_letsGo_B0 Q x1 M X4 x2 x3) : rG p l e R s m args below meth c cells slots Qs D aC ad 4 4 [(0, vR 12), (1, vI x1), (2, vI x2), (3, vI x3)] [] M := by
  unfold w_m_letsGo_B0 at hw
  refine r_iload_n hC dX12_letsGo_4 rfl rfl ?_
  refine r_aload_n hC dX12_letsGo_5 rfl rfl ?_
  refine r_getR hC 2 rfl (by decide) kf12_16 rfl rfl dX12_letsGo_6 ?_
  refine r_iload_n hC dX12_letsGo_9 rfl rfl ?_
  obtain ⟨o1, hw⟩ := hw
  refine r_iald hC rfl o1.1 o1.2 (by decide) (by decide) dX12_letsGo_10 (fun b3 b3' => ?_)
  replace hw := hw _ rfl b3 b3'
  obtain ⟨o4, hw⟩ := hw
  obtain ⟨hwt, hwf⟩ := hw
  refine r_icmp_ge hC 39 dX12_letsGo_11 (by decide) o4.1 o4.2 (by omega) (by omega) (fun c6 => ?_) (fun c6 => ?_)
  · have hw := hwt c6
    refine r_iload_n hC dX12_letsGo_39 rfl rfl ?_
    obtain ⟨o7, hw⟩ := hw
    exact hQ _ _ _ dX12_letsGo_40 o7.1 o7.2 hw
  · have hw := hwf c6
    refine r_iload_n hC dX12_letsGo_14 rfl rfl ?_
    obtain ⟨o8, hw⟩ := hw
    obtain ⟨hwt, hwf⟩ := hw
    refine r_if_ne hC 27 dX12_letsGo_15 (by decide) o8.1 o8.2 (fun c10 => ?_) (fun c10 => ?_)
    · have hw := hwt c10
      refine r_iconst hC dX12_letsGo_27 ?_
      refine r_goto hC 32 dX12_letsGo_28 (by decide) ?_
      refine r_istore_n hC dX12_letsGo_32 rfl (by decide) ?_
      refine r_iinc hC dX12_letsGo_33 rfl (by decide) ?_
      refine r_goto hC 4 dX12_letsGo_36 (by decide) ?_
      exact r_subk (hX4 _ _ hw) ⟨rfl, rfl, rfl, rfl, trivial⟩
    · have hw := hwf c10
      refine r_aload_n hC dX12_letsGo_18 rfl rfl ?_
      refine r_getR hC 19 rfl (by decide) kf12_62 rfl rfl dX12_letsGo_19 ?_
      refine r_iload_n hC dX12_letsGo_22 rfl rfl ?_
      obtain ⟨o11, hw⟩ := hw
      refine r_iald hC rfl o11.1 o11.2 (by decide) (by decide) dX12_letsGo_23 (fun b13 b13' => ?_)
      replace hw := hw _ rfl b13 b13'
      obtain ⟨hwt, hwf⟩ := hw
      refine r_if_lt hC 31 dX12_letsGo_24 (by decide) (by omega) (by omega) (fun c16 => ?_) (fun c16 => ?_)
      · have hw := hwt c16
        refine r_iconst hC dX12_letsGo_31 ?_
        refine r_istore_n hC dX12_letsGo_32 rfl (by decide) ?_
        refine r_iinc hC dX12_letsGo_33 rfl (by decide) ?_
        refine r_goto hC 4 dX12_letsGo_36 (by decide) ?_
        exact r_subk (hX4 _ _ hw) ⟨rfl, rfl, rfl, rfl, trivial⟩
      · have hw := hwf c16
        refine r_iconst hC dX12_letsGo_27 ?_
        refine r_goto hC 32 dX12_letsGo_28 (by decide) ?_
        refine r_istore_n hC dX12_letsGo_32 rfl (by decide) ?_
        refine r_iinc hC dX12_letsGo_33 rfl (by decide) ?_
        refine r_goto hC 4 dX12_letsGo_36 (by decide) ?_
        exact r_subk (hX4 _ _ hw) ⟨rfl, rfl, rfl, rfl, trivial⟩
def w_m_letsGo_L0 (Q : Int → Prop) (x1 : Int) (M : Mem) (x2 : Int) (x3 : Int) : Prop :=
  ∀ X : Int → Int → Prop, (∀ (x2 : Int) (x3 : Int), w_m_letsGo_B0 Q x1 M X x2 x3 → X x2 x3) → X x2 x3
set_option maxRecDepth 100000 in
set_option maxHeartbeats 4000000 in
theorem s_m_letsGo_L0 {Q : Int → Prop} {x1 : Int} {M : Mem} {x2 : Int} {x3 : Int} (hC : rC p R s m args meth c cells slots D aC ad 4 cX12_letsGo RX12 0 0 (some .boolean)) (hQ : ∀ (pc : Nat) (L : List (Nat × RV)) (z : Int), decode cX12_letsGo pc = .ok (.ireturn, 1) → 0 ≤ z → z ≤ 1 → Q z → rG p l e R s m args below meth c cells slots Qs D aC ad 4 pc L [vI z] M) (hw : w_m_letsGo_L0 Q x1 M x2 x3) : rG p l e R s m args below meth c cells slots Qs D aC ad 4 4 [(0, vR 12), (1, vI x1), (2, vI x2), (3, vI x3)] [] M := by
  unfold w_m_letsGo_L0 at hw
  exact hw (fun x2 x3 => rG p l e R s m args below meth c cells slots Qs D aC ad 4 4 [(0, vR 12), (1, vI x1), (2, vI x2), (3, vI x3)] [] M) (fun x2 x3 hb => s_m_letsGo_B0 hC hQ (fun _ _ h => h) hb)
def w_m_letsGo (M : Mem) (x1 : Int) (Q : Int → Prop) : Prop :=
  w_m_letsGo_L0 Q x1 M 0 0
set_option maxRecDepth 100000 in
set_option maxHeartbeats 4000000 in
theorem s_m_letsGo {M : Mem} {x1 : Int} {Q : Int → Prop} (hC : rC p R s m args meth c cells slots D aC ad 4 cX12_letsGo RX12 0 0 (some .boolean)) (hQ : ∀ (pc : Nat) (L : List (Nat × RV)) (z : Int), decode cX12_letsGo pc = .ok (.ireturn, 1) → 0 ≤ z → z ≤ 1 → Q z → rG p l e R s m args below meth c cells slots Qs D aC ad 4 pc L [vI z] M) (hw : w_m_letsGo M x1 Q) : rG p l e R s m args below meth c cells slots Qs D aC ad 4 0 [(0, vR 12), (1, vI x1)] [] M := by
  unfold w_m_letsGo at hw
  refine r_iconst hC dX12_letsGo_0 ?_
  refine r_istore_n hC dX12_letsGo_1 rfl (by decide) ?_
  refine r_iconst hC dX12_letsGo_2 ?_
  refine r_istore_n hC dX12_letsGo_3 rfl (by decide) ?_
  exact r_subk (s_m_letsGo_L0 hC hQ hw) ⟨rfl, rfl, rfl, rfl, trivial⟩
set_option maxRecDepth 100000 in
set_option maxHeartbeats 4000000 in
theorem d_m_letsGo {l : Launch} {D : va_G} {aC : Nat → ClassId} {ad : Nat → Nat} {M : Mem} {x1 : Int} {Q : Int → Prop} (hw : w_m_letsGo M x1 Q) : Does l D aC ad yX12_letsGo cX12_letsGo 4 (some .boolean) 0 0 [vR 12, vI x1] M (qI M Q) :=
  Does.of (by decide) (Nat.le_of_ble_eq_true rfl) (fun p e R s m args below meth c hC => r_subk (s_m_letsGo hC (fun pc L z d z1 z2 h => r_zret hC d z1 z2 ⟨rfl, ⟨z, rfl, h⟩⟩) hw) ⟨rfl, rfl, trivial⟩)
theorem dd_12_letsGo : yX12_letsGo.cls ≠ "java/lang/invoke/MethodHandle" ∧ yX12_letsGo.cls ≠ "java/lang/invoke/VarHandle" ∧ (parseMethodDescriptor yX12_letsGo.desc).map (fun d => d.parameters.length) = some 1 := by decide +kernel
/-- SoupSandModel.barsChoice -/
def w_m_barsChoice_j1 (Q : Int → Mem → Prop) (x1 : Int) (x3 : Int) (M : Mem) : Prop :=
  (0 ≤ x3 ∧ x3 < 6) ∧ (∀ a2 : Int, a2 = M 81 x3 → -1 ≤ a2 → a2 ≤ 1 → (0 ≤ x1 ∧ x1 < 16) ∧ (∀ a5 : Int, a5 = M 76 x1 → 0 ≤ a5 → a5 ≤ 2 → (a2 = a5 → Q 0 M) ∧ (¬ (a2 = a5) → Q 1 M)))
set_option maxRecDepth 100000 in
set_option maxHeartbeats 4000000 in
theorem s_m_barsChoice_j1 {Q : Int → Mem → Prop} {x1 : Int} {x3 : Int} {M : Mem} (hC : rC p R s m args meth c cells slots D aC ad 4 cX12_barsChoice RX12 5 120 (some .boolean)) (hQ : ∀ (pc : Nat) (L : List (Nat × RV)) (z : Int) (M : Mem), decode cX12_barsChoice pc = .ok (.ireturn, 1) → 0 ≤ z → z ≤ 1 → Q z M → rG p l e R s m args below meth c cells slots Qs D aC ad 4 pc L [vI z] M) (hw : w_m_barsChoice_j1 Q x1 x3 M) : rG p l e R s m args below meth c cells slots Qs D aC ad 4 117 [(0, vR 12), (1, vI x1), (3, vI x3)] [] M := by
  unfold w_m_barsChoice_j1 at hw
  refine r_aload_n hC dX12_barsChoice_117 rfl rfl ?_
  refine r_getR hC 33 rfl (by decide) kf12_95 rfl rfl dX12_barsChoice_118 ?_
  refine r_iload_n hC dX12_barsChoice_121 rfl rfl ?_
  obtain ⟨o1, hw⟩ := hw
  refine r_iald hC rfl o1.1 o1.2 (by decide) (by decide) dX12_barsChoice_122 (fun b3 b3' => ?_)
  replace hw := hw _ rfl b3 b3'
  refine r_aload_n hC dX12_barsChoice_123 rfl rfl ?_
  refine r_getR hC 28 rfl (by decide) kf12_80 rfl rfl dX12_barsChoice_124 ?_
  refine r_iload_n hC dX12_barsChoice_127 rfl rfl ?_
  obtain ⟨o4, hw⟩ := hw
  refine r_iald hC rfl o4.1 o4.2 (by decide) (by decide) dX12_barsChoice_128 (fun b6 b6' => ?_)
  replace hw := hw _ rfl b6 b6'
  obtain ⟨hwt, hwf⟩ := hw
  refine r_icmp_eq hC 136 dX12_barsChoice_129 (by decide) (by omega) (by omega) (by omega) (by omega) (fun c9 => ?_) (fun c9 => ?_)
  · have hw := hwt c9
    refine r_iconst hC dX12_barsChoice_136 ?_
    exact hQ _ _ _ _ dX12_barsChoice_137 (by decide) (by decide) hw
  · have hw := hwf c9
    refine r_iconst hC dX12_barsChoice_132 ?_
    refine r_goto hC 137 dX12_barsChoice_133 (by decide) ?_
    exact hQ _ _ _ _ dX12_barsChoice_137 (by decide) (by decide) hw
def w_m_barsChoice_j0 (Q : Int → Mem → Prop) (x1 : Int) (x3 : Int) (s1 : Int) (s2 : Int) (M : Mem) : Prop :=
  ((0 ≤ s1 ∧ s1 < 6) ∧ (-1 ≤ s2 ∧ s2 ≤ 1)) ∧ (∀ M2 : Mem, M2 = mset M 81 s1 s2 → w_m_barsChoice_j1 Q x1 x3 M2)
set_option maxRecDepth 100000 in
set_option maxHeartbeats 4000000 in
theorem s_m_barsChoice_j0 {Q : Int → Mem → Prop} {x1 : Int} {x3 : Int} {s1 : Int} {s2 : Int} {M : Mem} (hC : rC p R s m args meth c cells slots D aC ad 4 cX12_barsChoice RX12 5 120 (some .boolean)) (hQ : ∀ (pc : Nat) (L : List (Nat × RV)) (z : Int) (M : Mem), decode cX12_barsChoice pc = .ok (.ireturn, 1) → 0 ≤ z → z ≤ 1 → Q z M → rG p l e R s m args below meth c cells slots Qs D aC ad 4 pc L [vI z] M) (hw : w_m_barsChoice_j0 Q x1 x3 s1 s2 M) : rG p l e R s m args below meth c cells slots Qs D aC ad 4 116 [(0, vR 12), (1, vI x1), (3, vI x3)] [vI s2, vI s1, vR 81] M := by
  unfold w_m_barsChoice_j0 at hw
  obtain ⟨o1, hw⟩ := hw
  refine r_iast hC rfl o1.1.1 o1.1.2 (by decide) (by decide) o1.2.1 o1.2.2 dX12_barsChoice_116 ?_
  replace hw := hw _ rfl
  exact r_subk (s_m_barsChoice_j1 hC hQ hw) ⟨rfl, rfl, rfl, trivial⟩
def w_m_barsChoice (M : Mem) (x1 : Int) (Q : Int → Mem → Prop) : Prop :=
  (0 ≤ x1 ∧ x1 < 16) ∧ (∀ a2 : Int, a2 = M 75 x1 → 0 ≤ a2 → a2 ≤ 5 → (0 ≤ x1 ∧ x1 < 16) ∧ (∀ a5 : Int, a5 = M 76 x1 → 0 ≤ a5 → a5 ≤ 2 → (¬ (a5 = 2) → (0 ≤ x1 ∧ x1 < 16) ∧ (∀ a11 : Int, a11 = M 77 x1 → 0 ≤ a11 → a11 ≤ 5 → ∀ a14 : Int, a14 = M 81 a11 → -1 ≤ a14 → a14 ≤ 1 → (0 ≤ a14 → w_m_barsChoice_j1 Q x1 a11 M) ∧ (¬ (0 ≤ a14) → w_m_runOf M a2 a11 (fun M20 => w_m_letsGo M20 a2 (fun a21 => (-2147483648 ≤ a21 ∧ a21 ≤ 2147483647) ∧ ((a21 = 0 → w_m_barsChoice_j0 Q x1 a11 a11 0 M20) ∧ (¬ (a21 = 0) → w_m_barsChoice_j0 Q x1 a11 a11 1 M20))))))) ∧ (a5 = 2 → (0 ≤ x1 ∧ x1 < 16) ∧ (∀ a26 : Int, a26 = M 77 x1 → 0 ≤ a26 → a26 ≤ 5 → (0 ≤ x1 ∧ x1 < 16) ∧ (∀ a29 : Int, a29 = M 77 x1 → 0 ≤ a29 → a29 ≤ 5 → ∀ a32 : Int, a32 = M 68 a29 → 0 ≤ a32 → a32 ≤ 2 → ∀ a35 : Int, a35 = M 59 ((3 * ((6 * a2) + a26)) + a32) → 0 ≤ a35 → a35 ≤ 100 → (0 ≤ x1 ∧ x1 < 16) ∧ (∀ a39 : Int, a39 = M 78 x1 → -2147483648 ≤ a39 → a39 ≤ 2147483647 → (0 ≤ x1 ∧ x1 < 16) ∧ (∀ a43 : Int, a43 = M 79 x1 → -2147483648 ≤ a43 → a43 ≤ 2147483647 → w_m_in M a35 a39 a43 (fun a46 => (-2147483648 ≤ a46 ∧ a46 ≤ 2147483647) ∧ ((¬ (a46 = 0) → Q 0 M) ∧ (a46 = 0 → Q 1 M))))))))))
set_option maxRecDepth 100000 in
set_option maxHeartbeats 4000000 in
theorem s_m_barsChoice {M : Mem} {x1 : Int} {Q : Int → Mem → Prop} (hC : rC p R s m args meth c cells slots D aC ad 4 cX12_barsChoice RX12 5 120 (some .boolean)) (hQ : ∀ (pc : Nat) (L : List (Nat × RV)) (z : Int) (M : Mem), decode cX12_barsChoice pc = .ok (.ireturn, 1) → 0 ≤ z → z ≤ 1 → Q z M → rG p l e R s m args below meth c cells slots Qs D aC ad 4 pc L [vI z] M) (hw : w_m_barsChoice M x1 Q) : rG p l e R s m args below meth c cells slots Qs D aC ad 4 0 [(0, vR 12), (1, vI x1)] [] M := by
  unfold w_m_barsChoice at hw
  refine r_aload_n hC dX12_barsChoice_0 rfl rfl ?_
  refine r_getR hC 27 rfl (by decide) kf12_77 rfl rfl dX12_barsChoice_1 ?_
  refine r_iload_n hC dX12_barsChoice_4 rfl rfl ?_
  obtain ⟨o1, hw⟩ := hw
  refine r_iald hC rfl o1.1 o1.2 (by decide) (by decide) dX12_barsChoice_5 (fun b3 b3' => ?_)
  replace hw := hw _ rfl b3 b3'
  refine r_istore_n hC dX12_barsChoice_6 rfl (by decide) ?_
  refine r_aload_n hC dX12_barsChoice_7 rfl rfl ?_
  refine r_getR hC 28 rfl (by decide) kf12_80 rfl rfl dX12_barsChoice_8 ?_
  refine r_iload_n hC dX12_barsChoice_11 rfl rfl ?_
  obtain ⟨o4, hw⟩ := hw
  refine r_iald hC rfl o4.1 o4.2 (by decide) (by decide) dX12_barsChoice_12 (fun b6 b6' => ?_)
  replace hw := hw _ rfl b6 b6'
  refine r_iconst hC dX12_barsChoice_13 ?_
  obtain ⟨hwt, hwf⟩ := hw
  refine r_icmp_ne hC 76 dX12_barsChoice_14 (by decide) (by omega) (by omega) (by decide) (by decide) (fun c9 => ?_) (fun c9 => ?_)
  · have hw := hwt c9
    refine r_aload_n hC dX12_barsChoice_76 rfl rfl ?_
    refine r_getR hC 29 rfl (by decide) kf12_83 rfl rfl dX12_barsChoice_77 ?_
    refine r_iload_n hC dX12_barsChoice_80 rfl rfl ?_
    obtain ⟨o10, hw⟩ := hw
    refine r_iald hC rfl o10.1 o10.2 (by decide) (by decide) dX12_barsChoice_81 (fun b12 b12' => ?_)
    replace hw := hw _ rfl b12 b12'
    refine r_istore_n hC dX12_barsChoice_82 rfl (by decide) ?_
    refine r_aload_n hC dX12_barsChoice_83 rfl rfl ?_
    refine r_getR hC 33 rfl (by decide) kf12_95 rfl rfl dX12_barsChoice_84 ?_
    refine r_iload_n hC dX12_barsChoice_87 rfl rfl ?_
    refine r_iald hC rfl (by omega) (by omega) (by decide) (by decide) dX12_barsChoice_88 (fun b15 b15' => ?_)
    replace hw := hw _ rfl b15 b15'
    obtain ⟨hwt, hwf⟩ := hw
    refine r_if_ge hC 117 dX12_barsChoice_89 (by decide) (by omega) (by omega) (fun c18 => ?_) (fun c18 => ?_)
    · have hw := hwt c18
      exact r_subk (s_m_barsChoice_j1 hC hQ hw) ⟨rfl, rfl, rfl, trivial⟩
    · have hw := hwf c18
      refine r_aload_n hC dX12_barsChoice_92 rfl rfl ?_
      refine r_iload_n hC dX12_barsChoice_93 rfl rfl ?_
      refine r_iload_n hC dX12_barsChoice_94 rfl rfl ?_
      refine r_callV hC (d_m_runOf hw) rfl kC12_runOf km12_249 kI12_runOf kS12_runOf kN12 dd_12_runOf ⟨Nat.le_of_ble_eq_true rfl, Nat.le_of_ble_eq_true rfl⟩ rfl (Nat.le_of_ble_eq_true rfl) dX12_barsChoice_95 (fun r M' hp => ?_)
      obtain ⟨rfl, hw⟩ := hp
      try dsimp only at hw
      refine r_aload_n hC dX12_barsChoice_98 rfl rfl ?_
      refine r_getR hC 33 rfl (by decide) kf12_95 rfl rfl dX12_barsChoice_99 ?_
      refine r_iload_n hC dX12_barsChoice_102 rfl rfl ?_
      refine r_aload_n hC dX12_barsChoice_103 rfl rfl ?_
      refine r_iload_n hC dX12_barsChoice_104 rfl rfl ?_
      refine r_callV hC (d_m_letsGo hw) rfl kC12_letsGo km12_257 kI12_letsGo kS12_letsGo kN12 dd_12_letsGo ⟨Nat.le_of_ble_eq_true rfl, Nat.le_of_ble_eq_true rfl⟩ rfl (Nat.le_of_ble_eq_true rfl) dX12_barsChoice_105 (fun r M' hp => ?_)
      obtain ⟨rfl, a21, rfl, hw⟩ := hp
      try dsimp only at hw
      obtain ⟨o22, hw⟩ := hw
      obtain ⟨hwt, hwf⟩ := hw
      refine r_if_eq hC 115 dX12_barsChoice_108 (by decide) o22.1 o22.2 (fun c24 => ?_) (fun c24 => ?_)
      · have hw := hwt c24
        refine r_iconst hC dX12_barsChoice_115 ?_
        exact r_subk (s_m_barsChoice_j0 hC hQ hw) ⟨rfl, rfl, rfl, trivial⟩
      · have hw := hwf c24
        refine r_iconst hC dX12_barsChoice_111 ?_
        refine r_goto hC 116 dX12_barsChoice_112 (by decide) ?_
        exact r_subk (s_m_barsChoice_j0 hC hQ hw) ⟨rfl, rfl, rfl, trivial⟩
  · have hw := hwf c9
    refine r_aload_n hC dX12_barsChoice_17 rfl rfl ?_
    refine r_getR hC 6 rfl (by decide) kf12_28 rfl rfl dX12_barsChoice_18 ?_
    refine r_iconst hC dX12_barsChoice_21 ?_
    refine r_bipush hC dX12_barsChoice_22 (by decide) ?_
    refine r_iload_n hC dX12_barsChoice_24 rfl rfl ?_
    refine r_imul hC dX12_barsChoice_25 ?_
    refine r_aload_n hC dX12_barsChoice_26 rfl rfl ?_
    refine r_getR hC 29 rfl (by decide) kf12_83 rfl rfl dX12_barsChoice_27 ?_
    refine r_iload_n hC dX12_barsChoice_30 rfl rfl ?_
    obtain ⟨o25, hw⟩ := hw
    refine r_iald hC rfl o25.1 o25.2 (by decide) (by decide) dX12_barsChoice_31 (fun b27 b27' => ?_)
    replace hw := hw _ rfl b27 b27'
    refine r_iadd hC dX12_barsChoice_32 ?_
    refine r_imul hC dX12_barsChoice_33 ?_
    refine r_aload_n hC dX12_barsChoice_34 rfl rfl ?_
    refine r_getR hC 16 rfl (by decide) kf12_56 rfl rfl dX12_barsChoice_35 ?_
    refine r_aload_n hC dX12_barsChoice_38 rfl rfl ?_
    refine r_getR hC 29 rfl (by decide) kf12_83 rfl rfl dX12_barsChoice_39 ?_
    refine r_iload_n hC dX12_barsChoice_42 rfl rfl ?_
    obtain ⟨o28, hw⟩ := hw
    refine r_iald hC rfl o28.1 o28.2 (by decide) (by decide) dX12_barsChoice_43 (fun b30 b30' => ?_)
    replace hw := hw _ rfl b30 b30'
    refine r_iald hC rfl (by omega) (by omega) (by decide) (by decide) dX12_barsChoice_44 (fun b33 b33' => ?_)
    replace hw := hw _ rfl b33 b33'
    refine r_iadd hC dX12_barsChoice_45 ?_
    refine r_iald hC rfl (by omega) (by omega) (by decide) (by decide) dX12_barsChoice_46 (fun b36 b36' => ?_)
    replace hw := hw _ rfl b36 b36'
    refine r_istore_n hC dX12_barsChoice_47 rfl (by decide) ?_
    refine r_iload_n hC dX12_barsChoice_48 rfl rfl ?_
    refine r_i2l hC dX12_barsChoice_49 (by omega) (by omega) ?_
    refine r_aload_n hC dX12_barsChoice_50 rfl rfl ?_
    refine r_getR hC 30 rfl (by decide) kf12_86 rfl rfl dX12_barsChoice_51 ?_
    refine r_iload_n hC dX12_barsChoice_54 rfl rfl ?_
    obtain ⟨o38, hw⟩ := hw
    refine r_iald hC rfl o38.1 o38.2 (by decide) (by decide) dX12_barsChoice_55 (fun b40 b40' => ?_)
    replace hw := hw _ rfl b40 b40'
    refine r_i2l hC dX12_barsChoice_56 (by omega) (by omega) ?_
    refine r_aload_n hC dX12_barsChoice_57 rfl rfl ?_
    refine r_getR hC 31 rfl (by decide) kf12_89 rfl rfl dX12_barsChoice_58 ?_
    refine r_iload_n hC dX12_barsChoice_61 rfl rfl ?_
    obtain ⟨o42, hw⟩ := hw
    refine r_iald hC rfl o42.1 o42.2 (by decide) (by decide) dX12_barsChoice_62 (fun b44 b44' => ?_)
    replace hw := hw _ rfl b44 b44'
    refine r_i2l hC dX12_barsChoice_63 (by omega) (by omega) ?_
    refine r_callS hC (d_m_in hw) kC12_in km12_165 kT12_in kN12 dd_12_in ⟨Nat.le_of_ble_eq_true rfl, Nat.le_of_ble_eq_true rfl⟩ rfl (Nat.le_of_ble_eq_true rfl) dX12_barsChoice_64 (fun r M' hp => ?_)
    obtain ⟨rfl, a46, rfl, hw⟩ := hp
    try dsimp only at hw
    obtain ⟨o47, hw⟩ := hw
    obtain ⟨hwt, hwf⟩ := hw
    refine r_if_ne hC 74 dX12_barsChoice_67 (by decide) o47.1 o47.2 (fun c49 => ?_) (fun c49 => ?_)
    · have hw := hwt c49
      refine r_iconst hC dX12_barsChoice_74 ?_
      exact hQ _ _ _ _ dX12_barsChoice_75 (by decide) (by decide) hw
    · have hw := hwf c49
      refine r_iconst hC dX12_barsChoice_70 ?_
      refine r_goto hC 75 dX12_barsChoice_71 (by decide) ?_
      exact hQ _ _ _ _ dX12_barsChoice_75 (by decide) (by decide) hw
set_option maxRecDepth 100000 in
set_option maxHeartbeats 4000000 in
theorem d_m_barsChoice {l : Launch} {D : va_G} {aC : Nat → ClassId} {ad : Nat → Nat} {M : Mem} {x1 : Int} {Q : Int → Mem → Prop} (hw : w_m_barsChoice M x1 Q) : Does l D aC ad yX12_barsChoice cX12_barsChoice 4 (some .boolean) 5 120 [vR 12, vI x1] M (pI Q) :=
  Does.of (by decide) (Nat.le_of_ble_eq_true rfl) (fun p e R s m args below meth c hC => r_subk (s_m_barsChoice hC (fun pc L z M d z1 z2 h => r_zret hC d z1 z2 ⟨z, rfl, h⟩) hw) ⟨rfl, rfl, trivial⟩)
end
