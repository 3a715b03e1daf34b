section
variable {p : Program} {l : Launch} {e : Env} {R : Room} {s : State} {m : MethodId} {args : Array Value} {below : List Frame} {meth : Method} {c : Code} {cells slots : Nat} {Qs : State → Prop} {D : va_G} {aC : Nat → ClassId} {ad : Nat → Nat}
/-- SoupSand$Rules.after -/
def w_Rules_after (M : Mem) (Q : Int → Prop) : Prop :=
  ∀ a2 : Int, a2 = M 30 24 → 0 ≤ a2 → a2 ≤ 999 → Q a2
set_option maxRecDepth 100000 in
set_option maxHeartbeats 4000000 in
theorem s_Rules_after {M : Mem} {Q : Int → Prop} (hC : rC p R s m args meth c cells slots D aC ad 1 cX3_after RX3 0 0 (some .int)) (hQ : ∀ (pc : Nat) (L : List (Nat × RV)) (z : Int), decode cX3_after pc = .ok (.ireturn, 1) → Q z → rG p l e R s m args below meth c cells slots Qs D aC ad 1 pc L [vI z] M) (hw : w_Rules_after M Q) : rG p l e R s m args below meth c cells slots Qs D aC ad 1 0 [(0, vR 4)] [] M := by
  unfold w_Rules_after at hw
  refine r_aload_n hC dX3_after_0 rfl rfl ?_
  refine r_getR hC 0 rfl (by decide) kf3_9 rfl rfl dX3_after_1 ?_
  refine r_bipush hC dX3_after_4 (by decide) ?_
  refine r_iald hC rfl (by decide) (by decide) (by decide) (by decide) dX3_after_6 (fun b3 b3' => ?_)
  replace hw := hw _ rfl b3 b3'
  exact hQ _ _ _ dX3_after_7 hw
set_option maxRecDepth 100000 in
set_option maxHeartbeats 4000000 in
theorem d_Rules_after {l : Launch} {D : va_G} {aC : Nat → ClassId} {ad : Nat → Nat} {M : Mem} {Q : Int → Prop} (hw : w_Rules_after M Q) : Does l D aC ad yX3_after cX3_after 1 (some .int) 0 0 [vR 4] M (qI M Q) :=
  Does.of (by decide) (Nat.le_of_ble_eq_true rfl) (fun p e R s m args below meth c hC => r_subk (s_Rules_after hC (fun pc L z d h => r_iret hC d ⟨rfl, ⟨z, rfl, h⟩⟩) hw) ⟨rfl, trivial⟩)
theorem dd_3_after : yX3_after.cls ≠ "java/lang/invoke/MethodHandle" ∧ yX3_after.cls ≠ "java/lang/invoke/VarHandle" ∧ (parseMethodDescriptor yX3_after.desc).map (fun d => d.parameters.length) = some 0 := by decide +kernel
/-- SoupSand$Trial.under -/
def w_Trial_under_B1 (Q : Mem → Prop) (X162 : Int → Mem → Prop) (x4 : Int) (M : Mem) : Prop :=
  ∀ a1 : Int, a1 = M 1 13 → 0 ≤ a1 → a1 ≤ 60 → (-2147483648 ≤ x4 ∧ x4 ≤ 2147483647) ∧ ((a1 ≤ x4 → Q M) ∧ (¬ (a1 ≤ x4) → ∀ a6 : Int, a6 = M 1 10 → 0 ≤ a6 → a6 ≤ 6 → (0 ≤ ((a6 - 1) * 60) + x4 ∧ ((a6 - 1) * 60) + x4 < 360) ∧ (∀ M9 : Mem, M9 = mset M 18 (((a6 - 1) * 60) + x4) 0 → X162 (x4 + 1) M9)))
set_option maxRecDepth 100000 in
set_option maxHeartbeats 4000000 in
theorem s_Trial_under_B1 {Q : Mem → Prop} {X162 : Int → Mem → Prop} {x4 : Int} {M : Mem} (hC : rC p R s m args meth c cells slots D aC ad 5 cX8_under RX8 2 49 none) (hQ : ∀ (pc : Nat) (L : List (Nat × RV)) (M : Mem), decode cX8_under pc = .ok (.return_, 1) → Q M → rG p l e R s m args below meth c cells slots Qs D aC ad 5 pc L [] M) (hX162 : ∀ (x4 : Int) (M : Mem), X162 x4 M → rG p l e R s m args below meth c cells slots Qs D aC ad 5 162 [(0, vR 1), (4, vI x4)] [] M) (hw : w_Trial_under_B1 Q X162 x4 M) : rG p l e R s m args below meth c cells slots Qs D aC ad 5 162 [(0, vR 1), (4, vI x4)] [] M := by
  unfold w_Trial_under_B1 at hw
  refine r_iload hC dX8_under_162 rfl ?_
  refine r_aload_n hC dX8_under_164 rfl rfl ?_
  refine r_getI hC 13 rfl (by decide) kf8_63 rfl rfl dX8_under_165 (fun b2 b2' => ?_)
  replace hw := hw _ rfl b2 b2'
  obtain ⟨o3, hw⟩ := hw
  obtain ⟨hwt, hwf⟩ := hw
  refine r_icmp_ge hC 195 dX8_under_168 (by decide) o3.1 o3.2 (by omega) (by omega) (fun c5 => ?_) (fun c5 => ?_)
  · have hw := hwt c5
    exact hQ _ _ _ dX8_under_195 hw
  · have hw := hwf c5
    refine r_aload_n hC dX8_under_171 rfl rfl ?_
    refine r_getR hC 8 rfl (by decide) kf8_48 rfl rfl dX8_under_172 ?_
    refine r_aload_n hC dX8_under_175 rfl rfl ?_
    refine r_getI hC 10 rfl (by decide) kf8_58 rfl rfl dX8_under_176 (fun b7 b7' => ?_)
    replace hw := hw _ rfl b7 b7'
    refine r_iconst hC dX8_under_179 ?_
    refine r_isub hC dX8_under_180 ?_
    refine r_bipush hC dX8_under_181 (by decide) ?_
    refine r_imul hC dX8_under_183 ?_
    refine r_iload hC dX8_under_184 rfl ?_
    refine r_iadd hC dX8_under_186 ?_
    refine r_iconst hC dX8_under_187 ?_
    obtain ⟨o8, hw⟩ := hw
    refine r_iast hC rfl o8.1 o8.2 (by decide) (by decide) (by decide) (by decide) dX8_under_188 ?_
    replace hw := hw _ rfl
    refine r_iinc hC dX8_under_189 rfl (by decide) ?_
    refine r_goto hC 162 dX8_under_192 (by decide) ?_
    exact r_subk (hX162 _ _ hw) ⟨rfl, rfl, trivial⟩
def w_Trial_under_L1 (Q : Mem → Prop) (x4 : Int) (M : Mem) : Prop :=
  ∀ X : Int → Mem → Prop, (∀ (x4 : Int) (M : Mem), w_Trial_under_B1 Q X x4 M → X x4 M) → X x4 M
set_option maxRecDepth 100000 in
set_option maxHeartbeats 4000000 in
theorem s_Trial_under_L1 {Q : Mem → Prop} {x4 : Int} {M : Mem} (hC : rC p R s m args meth c cells slots D aC ad 5 cX8_under RX8 2 49 none) (hQ : ∀ (pc : Nat) (L : List (Nat × RV)) (M : Mem), decode cX8_under pc = .ok (.return_, 1) → Q M → rG p l e R s m args below meth c cells slots Qs D aC ad 5 pc L [] M) (hw : w_Trial_under_L1 Q x4 M) : rG p l e R s m args below meth c cells slots Qs D aC ad 5 162 [(0, vR 1), (4, vI x4)] [] M := by
  unfold w_Trial_under_L1 at hw
  exact hw (fun x4 M => rG p l e R s m args below meth c cells slots Qs D aC ad 5 162 [(0, vR 1), (4, vI x4)] [] M) (fun x4 M hb => s_Trial_under_B1 hC hQ (fun _ _ h => h) hb)
def w_Trial_under_B0 (Q : Mem → Prop) (x1 : Int) (X65 : Int → Mem → Prop) (x4 : Int) (M : Mem) : Prop :=
  ∀ a1 : Int, a1 = M 1 10 → 0 ≤ a1 → a1 ≤ 6 → (-2147483648 ≤ x4 ∧ x4 ≤ 2147483647) ∧ ((a1 ≤ x4 → ∀ a6 : Int, a6 = M 1 10 → 0 ≤ a6 → a6 ≤ 6 → ∀ a8 : Int, a8 = M 1 12 → 0 ≤ a8 → a8 ≤ 30 → ((0 : Int) ≤ x1 * 30 ∧ (0 : Int) ≤ (a6 - 1) * 30 ∧ (0 : Int) ≤ a8 ∧ ((x1 * 30) : Int) + a8 ≤ 180 ∧ (((a6 - 1) * 30) : Int) + a8 ≤ 180) ∧ (∀ M11 : Mem, M11 = mcpy M 29 (x1 * 30) 17 ((a6 - 1) * 30) a8 → w_Trial_under_L1 Q 0 M11)) ∧ (¬ (a1 ≤ x4) → ∀ a12 : Int, a12 = M 1 9 → 0 ≤ a12 → a12 ≤ 5 → w_Ground_holdOf M a12 x4 (fun a14 => ((0 ≤ x4 ∧ x4 < 6) ∧ (0 ≤ a14 ∧ a14 ≤ 1000000)) ∧ (∀ M16 : Mem, M16 = mset M 16 x4 a14 → ∀ a17 : Int, a17 = M16 1 9 → 0 ≤ a17 → a17 ≤ 5 → w_Ground_isWet M16 a17 x4 (fun a19 => (-2147483648 ≤ a19 ∧ a19 ≤ 2147483647) ∧ ((¬ (a19 = 0) → X65 (x4 + 1) M16) ∧ (a19 = 0 → (0 ≤ x4 + 1 ∧ x4 + 1 ≤ 6) ∧ (∀ M24 : Mem, M24 = mset M16 1 11 (x4 + 1) → X65 (x4 + 1) M24))))))))
set_option maxRecDepth 100000 in
set_option maxHeartbeats 4000000 in
theorem s_Trial_under_B0 {Q : Mem → Prop} {x1 : Int} {X65 : Int → Mem → Prop} {x4 : Int} {M : Mem} (hC : rC p R s m args meth c cells slots D aC ad 5 cX8_under RX8 2 49 none) (hQ : ∀ (pc : Nat) (L : List (Nat × RV)) (M : Mem), decode cX8_under pc = .ok (.return_, 1) → Q M → rG p l e R s m args below meth c cells slots Qs D aC ad 5 pc L [] M) (hX65 : ∀ (x4 : Int) (M : Mem), X65 x4 M → rG p l e R s m args below meth c cells slots Qs D aC ad 5 65 [(0, vR 1), (1, vI x1), (4, vI x4)] [] M) (hw : w_Trial_under_B0 Q x1 X65 x4 M) : rG p l e R s m args below meth c cells slots Qs D aC ad 5 65 [(0, vR 1), (1, vI x1), (4, vI x4)] [] M := by
  unfold w_Trial_under_B0 at hw
  refine r_iload hC dX8_under_65 rfl ?_
  refine r_aload_n hC dX8_under_67 rfl rfl ?_
  refine r_getI hC 10 rfl (by decide) kf8_58 rfl rfl dX8_under_68 (fun b2 b2' => ?_)
  replace hw := hw _ rfl b2 b2'
  obtain ⟨o3, hw⟩ := hw
  obtain ⟨hwt, hwf⟩ := hw
  refine r_icmp_ge hC 128 dX8_under_71 (by decide) o3.1 o3.2 (by omega) (by omega) (fun c5 => ?_) (fun c5 => ?_)
  · have hw := hwt c5
    refine r_aload_n hC dX8_under_128 rfl rfl ?_
    refine r_getR hC 1 rfl (by decide) kf8_21 rfl rfl dX8_under_129 ?_
    refine r_getR hC 2 rfl (by decide) kf8_92 rfl rfl dX8_under_132 ?_
    refine r_iload_n hC dX8_under_135 rfl rfl ?_
    refine r_bipush hC dX8_under_136 (by decide) ?_
    refine r_imul hC dX8_under_138 ?_
    refine r_aload_n hC dX8_under_139 rfl rfl ?_
    refine r_getR hC 7 rfl (by decide) kf8_45 rfl rfl dX8_under_140 ?_
    refine r_aload_n hC dX8_under_143 rfl rfl ?_
    refine r_getI hC 10 rfl (by decide) kf8_58 rfl rfl dX8_under_144 (fun b7 b7' => ?_)
    replace hw := hw _ rfl b7 b7'
    refine r_iconst hC dX8_under_147 ?_
    refine r_isub hC dX8_under_148 ?_
    refine r_bipush hC dX8_under_149 (by decide) ?_
    refine r_imul hC dX8_under_151 ?_
    refine r_aload_n hC dX8_under_152 rfl rfl ?_
    refine r_getI hC 12 rfl (by decide) kf8_60 rfl rfl dX8_under_153 (fun b9 b9' => ?_)
    replace hw := hw _ rfl b9 b9'
    obtain ⟨o10, hw⟩ := hw
    refine r_copy hC rfl rfl (by decide) (by decide) (by decide) km8_95 (by decide) (by decide) dX8_under_156 o10.1 o10.2.1 o10.2.2.1 o10.2.2.2.1 o10.2.2.2.2 ?_
    replace hw := hw _ rfl
    refine r_iconst hC dX8_under_159 ?_
    refine r_istore hC dX8_under_160 (by decide) ?_
    exact r_subk (s_Trial_under_L1 hC hQ hw) ⟨rfl, rfl, trivial⟩
  · have hw := hwf c5
    refine r_aload_n hC dX8_under_74 rfl rfl ?_
    refine r_getR hC 6 rfl (by decide) kf8_42 rfl rfl dX8_under_75 ?_
    refine r_iload hC dX8_under_78 rfl ?_
    refine r_aload_n hC dX8_under_80 rfl rfl ?_
    refine r_getR hC 0 rfl (by decide) kf8_12 rfl rfl dX8_under_81 ?_
    refine r_aload_n hC dX8_under_84 rfl rfl ?_
    refine r_getI hC 9 rfl (by decide) kf8_51 rfl rfl dX8_under_85 (fun b13 b13' => ?_)
    replace hw := hw _ rfl b13 b13'
    refine r_iload hC dX8_under_88 rfl ?_
    refine r_aload_n hC dX8_under_90 rfl rfl ?_
    refine r_getR hC 2 rfl (by decide) kf8_28 rfl rfl dX8_under_91 ?_
    refine r_callV hC (d_Ground_holdOf hw) rfl kC0_holdOf km8_84 kI0_holdOf kS0_holdOf kN0 dd_0_holdOf ⟨Nat.le_of_ble_eq_true rfl, Nat.le_of_ble_eq_true rfl⟩ rfl (Nat.le_of_ble_eq_true rfl) dX8_under_94 (fun r M' hp => ?_)
    obtain ⟨rfl, a14, rfl, hw⟩ := hp
    try dsimp only at hw
    obtain ⟨o15, hw⟩ := hw
    refine r_iast hC rfl o15.1.1 o15.1.2 (by decide) (by decide) o15.2.1 o15.2.2 dX8_under_97 ?_
    replace hw := hw _ rfl
    refine r_aload_n hC dX8_under_98 rfl rfl ?_
    refine r_getR hC 0 rfl (by decide) kf8_12 rfl rfl dX8_under_99 ?_
    refine r_aload_n hC dX8_under_102 rfl rfl ?_
    refine r_getI hC 9 rfl (by decide) kf8_51 rfl rfl dX8_under_103 (fun b18 b18' => ?_)
    replace hw := hw _ rfl b18 b18'
    refine r_iload hC dX8_under_106 rfl ?_
    refine r_callV hC (d_Ground_isWet hw) rfl kC0_isWet km8_88 kI0_isWet kS0_isWet kN0 dd_0_isWet ⟨Nat.le_of_ble_eq_true rfl, Nat.le_of_ble_eq_true rfl⟩ rfl (Nat.le_of_ble_eq_true rfl) dX8_under_108 (fun r M' hp => ?_)
    obtain ⟨rfl, a19, rfl, hw⟩ := hp
    try dsimp only at hw
    obtain ⟨o20, hw⟩ := hw
    obtain ⟨hwt, hwf⟩ := hw
    refine r_if_ne hC 122 dX8_under_111 (by decide) o20.1 o20.2 (fun c22 => ?_) (fun c22 => ?_)
    · have hw := hwt c22
      refine r_iinc hC dX8_under_122 rfl (by decide) ?_
      refine r_goto hC 65 dX8_under_125 (by decide) ?_
      exact r_subk (hX65 _ _ hw) ⟨rfl, rfl, rfl, trivial⟩
    · have hw := hwf c22
      refine r_aload_n hC dX8_under_114 rfl rfl ?_
      refine r_iload hC dX8_under_115 rfl ?_
      refine r_iconst hC dX8_under_117 ?_
      refine r_iadd hC dX8_under_118 ?_
      obtain ⟨o23, hw⟩ := hw
      refine r_putI hC 11 rfl (by decide) kf8_81 rfl rfl o23.1 o23.2 dX8_under_119 ?_
      replace hw := hw _ rfl
      refine r_iinc hC dX8_under_122 rfl (by decide) ?_
      refine r_goto hC 65 dX8_under_125 (by decide) ?_
      exact r_subk (hX65 _ _ hw) ⟨rfl, rfl, rfl, trivial⟩
def w_Trial_under_L0 (Q : Mem → Prop) (x1 : Int) (x4 : Int) (M : Mem) : Prop :=
  ∀ X : Int → Mem → Prop, (∀ (x4 : Int) (M : Mem), w_Trial_under_B0 Q x1 X x4 M → X x4 M) → X x4 M
set_option maxRecDepth 100000 in
set_option maxHeartbeats 4000000 in
theorem s_Trial_under_L0 {Q : Mem → Prop} {x1 : Int} {x4 : Int} {M : Mem} (hC : rC p R s m args meth c cells slots D aC ad 5 cX8_under RX8 2 49 none) (hQ : ∀ (pc : Nat) (L : List (Nat × RV)) (M : Mem), decode cX8_under pc = .ok (.return_, 1) → Q M → rG p l e R s m args below meth c cells slots Qs D aC ad 5 pc L [] M) (hw : w_Trial_under_L0 Q x1 x4 M) : rG p l e R s m args below meth c cells slots Qs D aC ad 5 65 [(0, vR 1), (1, vI x1), (4, vI x4)] [] M := by
  unfold w_Trial_under_L0 at hw
  exact hw (fun x4 M => rG p l e R s m args below meth c cells slots Qs D aC ad 5 65 [(0, vR 1), (1, vI x1), (4, vI x4)] [] M) (fun x4 M hb => s_Trial_under_B0 hC hQ (fun _ _ h => h) hb)
def w_Trial_under (M : Mem) (x1 : Int) (x2 : Int) (x3 : Int) (Q : Mem → Prop) : Prop :=
  (0 ≤ x1 ∧ x1 < 6) ∧ (∀ a2 : Int, a2 = M 28 x1 → 0 ≤ a2 → a2 ≤ 30 → ∀ M5 : Mem, M5 = mset M 1 12 a2 → ∀ a6 : Int, a6 = M5 1 12 → 0 ≤ a6 → a6 ≤ 30 → w_Rules_after M5 (fun a8 => (0 ≤ a6 + a8 ∧ a6 + a8 ≤ 60) ∧ (∀ M10 : Mem, M10 = mset M5 1 13 (a6 + a8) → (0 ≤ x2 ∧ x2 ≤ 3000) ∧ (∀ M12 : Mem, M12 = mset M10 1 14 x2 → (0 ≤ x3 ∧ x3 ≤ 3000) ∧ (∀ M14 : Mem, M14 = mset M12 1 15 x3 → ∀ a15 : Int, a15 = M14 1 10 → 0 ≤ a15 → a15 ≤ 6 → ∀ M18 : Mem, M18 = mset M14 1 16 (a15 - 1) → ∀ a19 : Int, a19 = M18 1 10 → 0 ≤ a19 → a19 ≤ 6 → (¬ (a19 = 0) → ∀ M25 : Mem, M25 = mset M18 1 11 0 → w_Trial_under_L0 Q x1 0 M25) ∧ (a19 = 0 → Q M18))))))
set_option maxRecDepth 100000 in
set_option maxHeartbeats 4000000 in
theorem s_Trial_under {M : Mem} {x1 : Int} {x2 : Int} {x3 : Int} {Q : Mem → Prop} (hC : rC p R s m args meth c cells slots D aC ad 5 cX8_under RX8 2 49 none) (hQ : ∀ (pc : Nat) (L : List (Nat × RV)) (M : Mem), decode cX8_under pc = .ok (.return_, 1) → Q M → rG p l e R s m args below meth c cells slots Qs D aC ad 5 pc L [] M) (hw : w_Trial_under M x1 x2 x3 Q) : rG p l e R s m args below meth c cells slots Qs D aC ad 5 0 [(0, vR 1), (1, vI x1), (2, vI x2), (3, vI x3)] [] M := by
  unfold w_Trial_under at hw
  refine r_aload_n hC dX8_under_0 rfl rfl ?_
  refine r_aload_n hC dX8_under_1 rfl rfl ?_
  refine r_getR hC 1 rfl (by decide) kf8_21 rfl rfl dX8_under_2 ?_
  refine r_getR hC 1 rfl (by decide) kf8_69 rfl rfl dX8_under_5 ?_
  refine r_iload_n hC dX8_under_8 rfl rfl ?_
  obtain ⟨o1, hw⟩ := hw
  refine r_iald hC rfl o1.1 o1.2 (by decide) (by decide) dX8_under_9 (fun b3 b3' => ?_)
  replace hw := hw _ rfl b3 b3'
  refine r_putI hC 12 rfl (by decide) kf8_60 rfl rfl (by omega) (by omega) dX8_under_10 ?_
  replace hw := hw _ rfl
  refine r_aload_n hC dX8_under_13 rfl rfl ?_
  refine r_aload_n hC dX8_under_14 rfl rfl ?_
  refine r_getI hC 12 rfl (by decide) kf8_60 rfl rfl dX8_under_15 (fun b7 b7' => ?_)
  replace hw := hw _ rfl b7 b7'
  refine r_aload_n hC dX8_under_18 rfl rfl ?_
  refine r_getR hC 2 rfl (by decide) kf8_28 rfl rfl dX8_under_19 ?_
  refine r_callV hC (d_Rules_after hw) rfl kC3_after km8_71 kI3_after kS3_after kN3 dd_3_after ⟨Nat.le_of_ble_eq_true rfl, Nat.le_of_ble_eq_true rfl⟩ rfl (Nat.le_of_ble_eq_true rfl) dX8_under_22 (fun r M' hp => ?_)
  obtain ⟨rfl, a8, rfl, hw⟩ := hp
  try dsimp only at hw
  refine r_iadd hC dX8_under_25 ?_
  obtain ⟨o9, hw⟩ := hw
  refine r_putI hC 13 rfl (by decide) kf8_63 rfl rfl o9.1 o9.2 dX8_under_26 ?_
  replace hw := hw _ rfl
  refine r_aload_n hC dX8_under_29 rfl rfl ?_
  refine r_iload_n hC dX8_under_30 rfl rfl ?_
  obtain ⟨o11, hw⟩ := hw
  refine r_putI hC 14 rfl (by decide) kf8_75 rfl rfl o11.1 o11.2 dX8_under_31 ?_
  replace hw := hw _ rfl
  refine r_aload_n hC dX8_under_34 rfl rfl ?_
  refine r_iload_n hC dX8_under_35 rfl rfl ?_
  obtain ⟨o13, hw⟩ := hw
  refine r_putI hC 15 rfl (by decide) kf8_78 rfl rfl o13.1 o13.2 dX8_under_36 ?_
  replace hw := hw _ rfl
  refine r_aload_n hC dX8_under_39 rfl rfl ?_
  refine r_aload_n hC dX8_under_40 rfl rfl ?_
  refine r_getI hC 10 rfl (by decide) kf8_58 rfl rfl dX8_under_41 (fun b16 b16' => ?_)
  replace hw := hw _ rfl b16 b16'
  refine r_iconst hC dX8_under_44 ?_
  refine r_isub hC dX8_under_45 ?_
  refine r_putI hC 16 rfl (by decide) kf8_66 rfl rfl (by omega) (by omega) dX8_under_46 ?_
  replace hw := hw _ rfl
  refine r_aload_n hC dX8_under_49 rfl rfl ?_
  refine r_getI hC 10 rfl (by decide) kf8_58 rfl rfl dX8_under_50 (fun b20 b20' => ?_)
  replace hw := hw _ rfl b20 b20'
  obtain ⟨hwt, hwf⟩ := hw
  refine r_if_ne hC 57 dX8_under_53 (by decide) (by omega) (by omega) (fun c23 => ?_) (fun c23 => ?_)
  · have hw := hwt c23
    refine r_aload_n hC dX8_under_57 rfl rfl ?_
    refine r_iconst hC dX8_under_58 ?_
    refine r_putI hC 11 rfl (by decide) kf8_81 rfl rfl (by decide) (by decide) dX8_under_59 ?_
    replace hw := hw _ rfl
    refine r_iconst hC dX8_under_62 ?_
    refine r_istore hC dX8_under_63 (by decide) ?_
    exact r_subk (s_Trial_under_L0 hC hQ hw) ⟨rfl, rfl, rfl, trivial⟩
  · have hw := hwf c23
    exact hQ _ _ _ dX8_under_56 hw
set_option maxRecDepth 100000 in
set_option maxHeartbeats 4000000 in
theorem d_Trial_under {l : Launch} {D : va_G} {aC : Nat → ClassId} {ad : Nat → Nat} {M : Mem} {x1 : Int} {x2 : Int} {x3 : Int} {Q : Mem → Prop} (hw : w_Trial_under M x1 x2 x3 Q) : Does l D aC ad yX8_under cX8_under 5 none 2 49 [vR 1, vI x1, vI x2, vI x3] M (pV Q) :=
  Does.of (by decide) (Nat.le_of_ble_eq_true rfl) (fun p e R s m args below meth c hC => r_subk (s_Trial_under hC (fun pc L M d h => r_vret hC d ⟨rfl, h⟩) hw) ⟨rfl, rfl, rfl, rfl, trivial⟩)
/-- SoupSand$Trial.ruleOf -/
def w_Trial_ruleOf (M : Mem) (x1 : Int) (x2 : Int) (Q : Int → Prop) : Prop :=
  ∀ a1 : Int, a1 = M 1 9 → 0 ≤ a1 → a1 ≤ 5 → (0 ≤ (a1 * 6) + x1 ∧ (a1 * 6) + x1 < 36) ∧ (∀ a4 : Int, a4 = M 22 ((a1 * 6) + x1) → 0 ≤ a4 → a4 ≤ 3 → (0 ≤ (a4 * 5) + x2 ∧ (a4 * 5) + x2 < 25) ∧ (∀ a7 : Int, a7 = M 30 ((a4 * 5) + x2) → 0 ≤ a7 → a7 ≤ 999 → Q a7))
set_option maxRecDepth 100000 in
set_option maxHeartbeats 4000000 in
theorem s_Trial_ruleOf {M : Mem} {x1 : Int} {x2 : Int} {Q : Int → Prop} (hC : rC p R s m args meth c cells slots D aC ad 3 cX8_ruleOf RX8 0 0 (some .int)) (hQ : ∀ (pc : Nat) (L : List (Nat × RV)) (z : Int), decode cX8_ruleOf pc = .ok (.ireturn, 1) → Q z → rG p l e R s m args below meth c cells slots Qs D aC ad 3 pc L [vI z] M) (hw : w_Trial_ruleOf M x1 x2 Q) : rG p l e R s m args below meth c cells slots Qs D aC ad 3 0 [(0, vR 1), (1, vI x1), (2, vI x2)] [] M := by
  unfold w_Trial_ruleOf at hw
  refine r_aload_n hC dX8_ruleOf_0 rfl rfl ?_
  refine r_getR hC 2 rfl (by decide) kf8_28 rfl rfl dX8_ruleOf_1 ?_
  refine r_getR hC 0 rfl (by decide) kf8_130 rfl rfl dX8_ruleOf_4 ?_
  refine r_aload_n hC dX8_ruleOf_7 rfl rfl ?_
  refine r_getR hC 0 rfl (by decide) kf8_12 rfl rfl dX8_ruleOf_8 ?_
  refine r_getR hC 3 rfl (by decide) kf8_133 rfl rfl dX8_ruleOf_11 ?_
  refine r_aload_n hC dX8_ruleOf_14 rfl rfl ?_
  refine r_getI hC 9 rfl (by decide) kf8_51 rfl rfl dX8_ruleOf_15 (fun b2 b2' => ?_)
  replace hw := hw _ rfl b2 b2'
  refine r_bipush hC dX8_ruleOf_18 (by decide) ?_
  refine r_imul hC dX8_ruleOf_20 ?_
  refine r_iload_n hC dX8_ruleOf_21 rfl rfl ?_
  refine r_iadd hC dX8_ruleOf_22 ?_
  obtain ⟨o3, hw⟩ := hw
  refine r_iald hC rfl o3.1 o3.2 (by decide) (by decide) dX8_ruleOf_23 (fun b5 b5' => ?_)
  replace hw := hw _ rfl b5 b5'
  refine r_iconst hC dX8_ruleOf_24 ?_
  refine r_imul hC dX8_ruleOf_25 ?_
  refine r_iload_n hC dX8_ruleOf_26 rfl rfl ?_
  refine r_iadd hC dX8_ruleOf_27 ?_
  obtain ⟨o6, hw⟩ := hw
  refine r_iald hC rfl o6.1 o6.2 (by decide) (by decide) dX8_ruleOf_28 (fun b8 b8' => ?_)
  replace hw := hw _ rfl b8 b8'
  exact hQ _ _ _ dX8_ruleOf_29 hw
set_option maxRecDepth 100000 in
set_option maxHeartbeats 4000000 in
theorem d_Trial_ruleOf {l : Launch} {D : va_G} {aC : Nat → ClassId} {ad : Nat → Nat} {M : Mem} {x1 : Int} {x2 : Int} {Q : Int → Prop} (hw : w_Trial_ruleOf M x1 x2 Q) : Does l D aC ad yX8_ruleOf cX8_ruleOf 3 (some .int) 0 0 [vR 1, vI x1, vI x2] M (qI M Q) :=
  Does.of (by decide) (Nat.le_of_ble_eq_true rfl) (fun p e R s m args below meth c hC => r_subk (s_Trial_ruleOf hC (fun pc L z d h => r_iret hC d ⟨rfl, ⟨z, rfl, h⟩⟩) hw) ⟨rfl, rfl, rfl, trivial⟩)
/-- SoupSand$Trial.valueAt -/
def w_Trial_valueAt (M : Mem) (x1 : Int) (Q : Int → Prop) : Prop :=
  ∀ a1 : Int, a1 = M 1 9 → 0 ≤ a1 → a1 ≤ 5 → (0 ≤ x1 ∧ x1 < 6) ∧ (∀ a4 : Int, a4 = M 13 x1 → 0 ≤ a4 → a4 ≤ 3 → (0 ≤ (((a1 * 6) + x1) * 3) + a4 ∧ (((a1 * 6) + x1) * 3) + a4 < 108) ∧ (∀ a7 : Int, a7 = M 25 ((((a1 * 6) + x1) * 3) + a4) → 0 ≤ a7 → a7 ≤ 100 → Q a7))
set_option maxRecDepth 100000 in
set_option maxHeartbeats 4000000 in
theorem s_Trial_valueAt {M : Mem} {x1 : Int} {Q : Int → Prop} (hC : rC p R s m args meth c cells slots D aC ad 2 cX8_valueAt RX8 0 0 (some .int)) (hQ : ∀ (pc : Nat) (L : List (Nat × RV)) (z : Int), decode cX8_valueAt pc = .ok (.ireturn, 1) → Q z → rG p l e R s m args below meth c cells slots Qs D aC ad 2 pc L [vI z] M) (hw : w_Trial_valueAt M x1 Q) : rG p l e R s m args below meth c cells slots Qs D aC ad 2 0 [(0, vR 1), (1, vI x1)] [] M := by
  unfold w_Trial_valueAt at hw
  refine r_aload_n hC dX8_valueAt_0 rfl rfl ?_
  refine r_getR hC 0 rfl (by decide) kf8_12 rfl rfl dX8_valueAt_1 ?_
  refine r_getR hC 6 rfl (by decide) kf8_121 rfl rfl dX8_valueAt_4 ?_
  refine r_aload_n hC dX8_valueAt_7 rfl rfl ?_
  refine r_getI hC 9 rfl (by decide) kf8_51 rfl rfl dX8_valueAt_8 (fun b2 b2' => ?_)
  replace hw := hw _ rfl b2 b2'
  refine r_bipush hC dX8_valueAt_11 (by decide) ?_
  refine r_imul hC dX8_valueAt_13 ?_
  refine r_iload_n hC dX8_valueAt_14 rfl rfl ?_
  refine r_iadd hC dX8_valueAt_15 ?_
  refine r_iconst hC dX8_valueAt_16 ?_
  refine r_imul hC dX8_valueAt_17 ?_
  refine r_aload_n hC dX8_valueAt_18 rfl rfl ?_
  refine r_getR hC 3 rfl (by decide) kf8_32 rfl rfl dX8_valueAt_19 ?_
  refine r_iload_n hC dX8_valueAt_22 rfl rfl ?_
  obtain ⟨o3, hw⟩ := hw
  refine r_iald hC rfl o3.1 o3.2 (by decide) (by decide) dX8_valueAt_23 (fun b5 b5' => ?_)
  replace hw := hw _ rfl b5 b5'
  refine r_iadd hC dX8_valueAt_24 ?_
  obtain ⟨o6, hw⟩ := hw
  refine r_iald hC rfl o6.1 o6.2 (by decide) (by decide) dX8_valueAt_25 (fun b8 b8' => ?_)
  replace hw := hw _ rfl b8 b8'
  exact hQ _ _ _ dX8_valueAt_26 hw
set_option maxRecDepth 100000 in
set_option maxHeartbeats 4000000 in
theorem d_Trial_valueAt {l : Launch} {D : va_G} {aC : Nat → ClassId} {ad : Nat → Nat} {M : Mem} {x1 : Int} {Q : Int → Prop} (hw : w_Trial_valueAt M x1 Q) : Does l D aC ad yX8_valueAt cX8_valueAt 2 (some .int) 0 0 [vR 1, vI x1] M (qI M Q) :=
  Does.of (by decide) (Nat.le_of_ble_eq_true rfl) (fun p e R s m args below meth c hC => r_subk (s_Trial_valueAt hC (fun pc L z d h => r_iret hC d ⟨rfl, ⟨z, rfl, h⟩⟩) hw) ⟨rfl, rfl, trivial⟩)
/-- SoupSand$Trial.gain -/
def w_Trial_gain (M : Mem) (x1 : Int) (x2 : Int) (x3 : Int) (Q : Mem → Prop) : Prop :=
  (0 ≤ x1 ∧ x1 < 6) ∧ (∀ a2 : Int, a2 = M 15 x1 → -1 ≤ a2 → a2 ≤ 59 → (a2 = (-1) → (0 ≤ x1 ∧ x1 < 6) ∧ (∀ a8 : Int, a8 = M 14 x1 → 0 ≤ a8 → a8 ≤ 20000000 → ((0 ≤ x1 ∧ x1 < 6) ∧ (0 ≤ a8 + x3 ∧ a8 + x3 ≤ 20000000)) ∧ (∀ M11 : Mem, M11 = mset M 14 x1 (a8 + x3) → (0 ≤ x1 ∧ x1 < 6) ∧ (∀ a13 : Int, a13 = M11 14 x1 → 0 ≤ a13 → a13 ≤ 20000000 → (1000 ≤ a13 → (0 ≤ x1 ∧ x1 < 6) ∧ (∀ M19 : Mem, M19 = mset M11 14 x1 1000 → ((0 ≤ x1 ∧ x1 < 6) ∧ (-1 ≤ x2 ∧ x2 ≤ 59)) ∧ (∀ M21 : Mem, M21 = mset M19 15 x1 x2 → Q M21))) ∧ (¬ (1000 ≤ a13) → Q M11))))) ∧ (¬ (a2 = (-1)) → Q M))
set_option maxRecDepth 100000 in
set_option maxHeartbeats 4000000 in
theorem s_Trial_gain {M : Mem} {x1 : Int} {x2 : Int} {x3 : Int} {Q : Mem → Prop} (hC : rC p R s m args meth c cells slots D aC ad 4 cX8_gain RX8 0 0 none) (hQ : ∀ (pc : Nat) (L : List (Nat × RV)) (M : Mem), decode cX8_gain pc = .ok (.return_, 1) → Q M → rG p l e R s m args below meth c cells slots Qs D aC ad 4 pc L [] M) (hw : w_Trial_gain M x1 x2 x3 Q) : rG p l e R s m args below meth c cells slots Qs D aC ad 4 0 [(0, vR 1), (1, vI x1), (2, vI x2), (3, vI x3)] [] M := by
  unfold w_Trial_gain at hw
  refine r_aload_n hC dX8_gain_0 rfl rfl ?_
  refine r_getR hC 5 rfl (by decide) kf8_39 rfl rfl dX8_gain_1 ?_
  refine r_iload_n hC dX8_gain_4 rfl rfl ?_
  obtain ⟨o1, hw⟩ := hw
  refine r_iald hC rfl o1.1 o1.2 (by decide) (by decide) dX8_gain_5 (fun b3 b3' => ?_)
  replace hw := hw _ rfl b3 b3'
  refine r_iconst hC dX8_gain_6 ?_
  obtain ⟨hwt, hwf⟩ := hw
  refine r_icmp_eq hC 11 dX8_gain_7 (by decide) (by omega) (by omega) (by decide) (by decide) (fun c6 => ?_) (fun c6 => ?_)
  · have hw := hwt c6
    refine r_aload_n hC dX8_gain_11 rfl rfl ?_
    refine r_getR hC 4 rfl (by decide) kf8_36 rfl rfl dX8_gain_12 ?_
    refine r_iload_n hC dX8_gain_15 rfl rfl ?_
    refine r_dup2 hC dX8_gain_16 rfl rfl ?_
    obtain ⟨o7, hw⟩ := hw
    refine r_iald hC rfl o7.1 o7.2 (by decide) (by decide) dX8_gain_17 (fun b9 b9' => ?_)
    replace hw := hw _ rfl b9 b9'
    refine r_iload_n hC dX8_gain_18 rfl rfl ?_
    refine r_iadd hC dX8_gain_19 ?_
    obtain ⟨o10, hw⟩ := hw
    refine r_iast hC rfl o10.1.1 o10.1.2 (by decide) (by decide) o10.2.1 o10.2.2 dX8_gain_20 ?_
    replace hw := hw _ rfl
    refine r_aload_n hC dX8_gain_21 rfl rfl ?_
    refine r_getR hC 4 rfl (by decide) kf8_36 rfl rfl dX8_gain_22 ?_
    refine r_iload_n hC dX8_gain_25 rfl rfl ?_
    obtain ⟨o12, hw⟩ := hw
    refine r_iald hC rfl o12.1 o12.2 (by decide) (by decide) dX8_gain_26 (fun b14 b14' => ?_)
    replace hw := hw _ rfl b14 b14'
    refine r_sipush hC dX8_gain_27 (by decide) ?_
    obtain ⟨hwt, hwf⟩ := hw
    refine r_icmp_ge hC 34 dX8_gain_30 (by decide) (by omega) (by omega) (by decide) (by decide) (fun c17 => ?_) (fun c17 => ?_)
    · have hw := hwt c17
      refine r_aload_n hC dX8_gain_34 rfl rfl ?_
      refine r_getR hC 4 rfl (by decide) kf8_36 rfl rfl dX8_gain_35 ?_
      refine r_iload_n hC dX8_gain_38 rfl rfl ?_
      refine r_sipush hC dX8_gain_39 (by decide) ?_
      obtain ⟨o18, hw⟩ := hw
      refine r_iast hC rfl o18.1 o18.2 (by decide) (by decide) (by decide) (by decide) dX8_gain_42 ?_
      replace hw := hw _ rfl
      refine r_aload_n hC dX8_gain_43 rfl rfl ?_
      refine r_getR hC 5 rfl (by decide) kf8_39 rfl rfl dX8_gain_44 ?_
      refine r_iload_n hC dX8_gain_47 rfl rfl ?_
      refine r_iload_n hC dX8_gain_48 rfl rfl ?_
      obtain ⟨o20, hw⟩ := hw
      refine r_iast hC rfl o20.1.1 o20.1.2 (by decide) (by decide) o20.2.1 o20.2.2 dX8_gain_49 ?_
      replace hw := hw _ rfl
      exact hQ _ _ _ dX8_gain_50 hw
    · have hw := hwf c17
      exact hQ _ _ _ dX8_gain_33 hw
  · have hw := hwf c6
    exact hQ _ _ _ dX8_gain_10 hw
set_option maxRecDepth 100000 in
set_option maxHeartbeats 4000000 in
theorem d_Trial_gain {l : Launch} {D : va_G} {aC : Nat → ClassId} {ad : Nat → Nat} {M : Mem} {x1 : Int} {x2 : Int} {x3 : Int} {Q : Mem → Prop} (hw : w_Trial_gain M x1 x2 x3 Q) : Does l D aC ad yX8_gain cX8_gain 4 none 0 0 [vR 1, vI x1, vI x2, vI x3] M (pV Q) :=
  Does.of (by decide) (Nat.le_of_ble_eq_true rfl) (fun p e R s m args below meth c hC => r_subk (s_Trial_gain hC (fun pc L M d h => r_vret hC d ⟨rfl, h⟩) hw) ⟨rfl, rfl, rfl, rfl, trivial⟩)
/-- SoupSand$Rules.flow -/
def w_Rules_flow (M : Mem) (Q : Int → Prop) : Prop :=
  ∀ a2 : Int, a2 = M 30 22 → 0 ≤ a2 → a2 ≤ 999 → Q a2
set_option maxRecDepth 100000 in
set_option maxHeartbeats 4000000 in
theorem s_Rules_flow {M : Mem} {Q : Int → Prop} (hC : rC p R s m args meth c cells slots D aC ad 1 cX3_flow RX3 0 0 (some .int)) (hQ : ∀ (pc : Nat) (L : List (Nat × RV)) (z : Int), decode cX3_flow pc = .ok (.ireturn, 1) → Q z → rG p l e R s m args below meth c cells slots Qs D aC ad 1 pc L [vI z] M) (hw : w_Rules_flow M Q) : rG p l e R s m args below meth c cells slots Qs D aC ad 1 0 [(0, vR 4)] [] M := by
  unfold w_Rules_flow at hw
  refine r_aload_n hC dX3_flow_0 rfl rfl ?_
  refine r_getR hC 0 rfl (by decide) kf3_9 rfl rfl dX3_flow_1 ?_
  refine r_bipush hC dX3_flow_4 (by decide) ?_
  refine r_iald hC rfl (by decide) (by decide) (by decide) (by decide) dX3_flow_6 (fun b3 b3' => ?_)
  replace hw := hw _ rfl b3 b3'
  exact hQ _ _ _ dX3_flow_7 hw
set_option maxRecDepth 100000 in
set_option maxHeartbeats 4000000 in
theorem d_Rules_flow {l : Launch} {D : va_G} {aC : Nat → ClassId} {ad : Nat → Nat} {M : Mem} {Q : Int → Prop} (hw : w_Rules_flow M Q) : Does l D aC ad yX3_flow cX3_flow 1 (some .int) 0 0 [vR 4] M (qI M Q) :=
  Does.of (by decide) (Nat.le_of_ble_eq_true rfl) (fun p e R s m args below meth c hC => r_subk (s_Rules_flow hC (fun pc L z d h => r_iret hC d ⟨rfl, ⟨z, rfl, h⟩⟩) hw) ⟨rfl, trivial⟩)
theorem dd_3_flow : yX3_flow.cls ≠ "java/lang/invoke/MethodHandle" ∧ yX3_flow.cls ≠ "java/lang/invoke/VarHandle" ∧ (parseMethodDescriptor yX3_flow.desc).map (fun d => d.parameters.length) = some 0 := by decide +kernel
theorem dd_8_gain : yX8_gain.cls ≠ "java/lang/invoke/MethodHandle" ∧ yX8_gain.cls ≠ "java/lang/invoke/VarHandle" ∧ (parseMethodDescriptor yX8_gain.desc).map (fun d => d.parameters.length) = some 3 := by decide +kernel
theorem dd_8_ruleOf : yX8_ruleOf.cls ≠ "java/lang/invoke/MethodHandle" ∧ yX8_ruleOf.cls ≠ "java/lang/invoke/VarHandle" ∧ (parseMethodDescriptor yX8_ruleOf.desc).map (fun d => d.parameters.length) = some 2 := by decide +kernel
theorem dd_8_valueAt : yX8_valueAt.cls ≠ "java/lang/invoke/MethodHandle" ∧ yX8_valueAt.cls ≠ "java/lang/invoke/VarHandle" ∧ (parseMethodDescriptor yX8_valueAt.desc).map (fun d => d.parameters.length) = some 1 := by decide +kernel
/-- SoupSand$Trial.playWet -/
def w_Trial_playWet_j2 (Q : Mem → Prop) (X62 : Int → Mem → Prop) (x1 : Int) (x2 : Int) (x3 : Int) (x4 : Int) (x5 : Int) (x6 : Int) (M : Mem) : Prop :=
  (0 ≤ x1 ∧ x1 < 6) ∧ (∀ a2 : Int, a2 = M 14 x1 → 0 ≤ a2 → a2 ≤ 20000000 → (0 ≤ a2 * x3 ∧ a2 * x3 ≤ 2147483647) ∧ ((0 ≤ x1 ∧ x1 < 6) ∧ (∀ a6 : Int, a6 = M 14 x1 → 0 ≤ a6 → a6 ≤ 20000000 → ((0 ≤ x1 ∧ x1 < 6) ∧ (0 ≤ a6 - ((a2 * x3) / 1000) ∧ a6 - ((a2 * x3) / 1000) ≤ 20000000)) ∧ (∀ M9 : Mem, M9 = mset M 14 x1 (a6 - ((a2 * x3) / 1000)) → (0 ≤ (x1 * 60) + x6 ∧ (x1 * 60) + x6 < 360) ∧ (∀ a11 : Int, a11 = M9 18 ((x1 * 60) + x6) → 0 ≤ a11 → a11 ≤ 500 → w_Trial_gain M9 x1 x6 a11 (fun M14 => (-2147483648 ≤ x1 ∧ x1 ≤ 2147483647) ∧ ((x1 ≤ 0 → X62 (x6 + 1) M14) ∧ (¬ (x1 ≤ 0) → (0 ≤ (a2 * x3) / 1000 ∧ (a2 * x3) / 1000 ≤ 2147483647) ∧ (((0 ≤ ((x1 - 1) * 60) + x6 ∧ ((x1 - 1) * 60) + x6 < 360) ∧ (0 ≤ ((a2 * x3) / 1000) / 2 ∧ ((a2 * x3) / 1000) / 2 ≤ 500)) ∧ (∀ M20 : Mem, M20 = mset M14 18 (((x1 - 1) * 60) + x6) (((a2 * x3) / 1000) / 2) → X62 (x6 + 1) M20))))))))))
set_option maxRecDepth 100000 in
set_option maxHeartbeats 4000000 in
theorem s_Trial_playWet_j2 {Q : Mem → Prop} {X62 : Int → Mem → Prop} {x1 : Int} {x2 : Int} {x3 : Int} {x4 : Int} {x5 : Int} {x6 : Int} {M : Mem} (hC : rC p R s m args meth c cells slots D aC ad 9 cX8_playWet RX8 1 23 none) (hQ : ∀ (pc : Nat) (L : List (Nat × RV)) (M : Mem), decode cX8_playWet pc = .ok (.return_, 1) → Q M → rG p l e R s m args below meth c cells slots Qs D aC ad 9 pc L [] M) (hX62 : ∀ (x6 : Int) (M : Mem), X62 x6 M → rG p l e R s m args below meth c cells slots Qs D aC ad 9 62 [(0, vR 1), (1, vI x1), (2, vI x2), (3, vI x3), (4, vI x4), (5, vI x5), (6, vI x6)] [] M) (hw : w_Trial_playWet_j2 Q X62 x1 x2 x3 x4 x5 x6 M) : rG p l e R s m args below meth c cells slots Qs D aC ad 9 158 [(0, vR 1), (1, vI x1), (2, vI x2), (3, vI x3), (4, vI x4), (5, vI x5), (6, vI x6)] [] M := by
  unfold w_Trial_playWet_j2 at hw
  refine r_aload_n hC dX8_playWet_158 rfl rfl ?_
  refine r_getR hC 4 rfl (by decide) kf8_36 rfl rfl dX8_playWet_159 ?_
  refine r_iload_n hC dX8_playWet_162 rfl rfl ?_
  obtain ⟨o1, hw⟩ := hw
  refine r_iald hC rfl o1.1 o1.2 (by decide) (by decide) dX8_playWet_163 (fun b3 b3' => ?_)
  replace hw := hw _ rfl b3 b3'
  refine r_iload_n hC dX8_playWet_164 rfl rfl ?_
  refine r_imul hC dX8_playWet_165 ?_
  refine r_sipush hC dX8_playWet_166 (by decide) ?_
  obtain ⟨o4, hw⟩ := hw
  refine r_idiv hC dX8_playWet_169 o4.1 o4.2 (by decide) (by decide) ?_
  refine r_istore hC dX8_playWet_170 (by decide) ?_
  refine r_aload_n hC dX8_playWet_172 rfl rfl ?_
  refine r_getR hC 4 rfl (by decide) kf8_36 rfl rfl dX8_playWet_173 ?_
  refine r_iload_n hC dX8_playWet_176 rfl rfl ?_
  refine r_dup2 hC dX8_playWet_177 rfl rfl ?_
  obtain ⟨o5, hw⟩ := hw
  refine r_iald hC rfl o5.1 o5.2 (by decide) (by decide) dX8_playWet_178 (fun b7 b7' => ?_)
  replace hw := hw _ rfl b7 b7'
  refine r_iload hC dX8_playWet_179 rfl ?_
  refine r_isub hC dX8_playWet_181 ?_
  obtain ⟨o8, hw⟩ := hw
  refine r_iast hC rfl o8.1.1 o8.1.2 (by decide) (by decide) o8.2.1 o8.2.2 dX8_playWet_182 ?_
  replace hw := hw _ rfl
  refine r_aload_n hC dX8_playWet_183 rfl rfl ?_
  refine r_iload_n hC dX8_playWet_184 rfl rfl ?_
  refine r_iload hC dX8_playWet_185 rfl ?_
  refine r_aload_n hC dX8_playWet_187 rfl rfl ?_
  refine r_getR hC 8 rfl (by decide) kf8_48 rfl rfl dX8_playWet_188 ?_
  refine r_iload_n hC dX8_playWet_191 rfl rfl ?_
  refine r_bipush hC dX8_playWet_192 (by decide) ?_
  refine r_imul hC dX8_playWet_194 ?_
  refine r_iload hC dX8_playWet_195 rfl ?_
  refine r_iadd hC dX8_playWet_197 ?_
  obtain ⟨o10, hw⟩ := hw
  refine r_iald hC rfl o10.1 o10.2 (by decide) (by decide) dX8_playWet_198 (fun b12 b12' => ?_)
  replace hw := hw _ rfl b12 b12'
  refine r_callV hC (d_Trial_gain hw) rfl kC8_gain km8_149 kI8_gain kS8_gain kN8 dd_8_gain ⟨Nat.le_of_ble_eq_true rfl, Nat.le_of_ble_eq_true rfl⟩ rfl (Nat.le_of_ble_eq_true rfl) dX8_playWet_199 (fun r M' hp => ?_)
  obtain ⟨rfl, hw⟩ := hp
  try dsimp only at hw
  refine r_iload_n hC dX8_playWet_202 rfl rfl ?_
  obtain ⟨o15, hw⟩ := hw
  obtain ⟨hwt, hwf⟩ := hw
  refine r_if_le hC 224 dX8_playWet_203 (by decide) o15.1 o15.2 (fun c17 => ?_) (fun c17 => ?_)
  · have hw := hwt c17
    refine r_iinc hC dX8_playWet_224 rfl (by decide) ?_
    refine r_goto hC 62 dX8_playWet_227 (by decide) ?_
    exact r_subk (hX62 _ _ hw) ⟨rfl, rfl, rfl, rfl, rfl, rfl, rfl, trivial⟩
  · have hw := hwf c17
    refine r_aload_n hC dX8_playWet_206 rfl rfl ?_
    refine r_getR hC 8 rfl (by decide) kf8_48 rfl rfl dX8_playWet_207 ?_
    refine r_iload_n hC dX8_playWet_210 rfl rfl ?_
    refine r_iconst hC dX8_playWet_211 ?_
    refine r_isub hC dX8_playWet_212 ?_
    refine r_bipush hC dX8_playWet_213 (by decide) ?_
    refine r_imul hC dX8_playWet_215 ?_
    refine r_iload hC dX8_playWet_216 rfl ?_
    refine r_iadd hC dX8_playWet_218 ?_
    refine r_iload hC dX8_playWet_219 rfl ?_
    refine r_iconst hC dX8_playWet_221 ?_
    obtain ⟨o18, hw⟩ := hw
    refine r_idiv hC dX8_playWet_222 o18.1 o18.2 (by decide) (by decide) ?_
    obtain ⟨o19, hw⟩ := hw
    refine r_iast hC rfl o19.1.1 o19.1.2 (by decide) (by decide) o19.2.1 o19.2.2 dX8_playWet_223 ?_
    replace hw := hw _ rfl
    refine r_iinc hC dX8_playWet_224 rfl (by decide) ?_
    refine r_goto hC 62 dX8_playWet_227 (by decide) ?_
    exact r_subk (hX62 _ _ hw) ⟨rfl, rfl, rfl, rfl, rfl, rfl, rfl, trivial⟩
def w_Trial_playWet_j1 (Q : Mem → Prop) (X62 : Int → Mem → Prop) (x1 : Int) (x2 : Int) (x3 : Int) (x4 : Int) (x5 : Int) (x6 : Int) (x7 : Int) (M : Mem) : Prop :=
  ((0 ≤ x7 * x4 ∧ x7 * x4 ≤ 2147483647) ∧ (0 < x5 ∧ x5 ≤ 2147483647)) ∧ (w_Trial_gain M x1 x6 ((x7 * x4) / x5) (fun M3 => w_Trial_playWet_j2 Q X62 x1 x2 x3 x4 x5 x6 M3))
set_option maxRecDepth 100000 in
set_option maxHeartbeats 4000000 in
theorem s_Trial_playWet_j1 {Q : Mem → Prop} {X62 : Int → Mem → Prop} {x1 : Int} {x2 : Int} {x3 : Int} {x4 : Int} {x5 : Int} {x6 : Int} {x7 : Int} {M : Mem} (hC : rC p R s m args meth c cells slots D aC ad 9 cX8_playWet RX8 1 23 none) (hQ : ∀ (pc : Nat) (L : List (Nat × RV)) (M : Mem), decode cX8_playWet pc = .ok (.return_, 1) → Q M → rG p l e R s m args below meth c cells slots Qs D aC ad 9 pc L [] M) (hX62 : ∀ (x6 : Int) (M : Mem), X62 x6 M → rG p l e R s m args below meth c cells slots Qs D aC ad 9 62 [(0, vR 1), (1, vI x1), (2, vI x2), (3, vI x3), (4, vI x4), (5, vI x5), (6, vI x6)] [] M) (hw : w_Trial_playWet_j1 Q X62 x1 x2 x3 x4 x5 x6 x7 M) : rG p l e R s m args below meth c cells slots Qs D aC ad 9 143 [(0, vR 1), (1, vI x1), (2, vI x2), (3, vI x3), (4, vI x4), (5, vI x5), (6, vI x6), (7, vI x7)] [] M := by
  unfold w_Trial_playWet_j1 at hw
  refine r_aload_n hC dX8_playWet_143 rfl rfl ?_
  refine r_iload_n hC dX8_playWet_144 rfl rfl ?_
  refine r_iload hC dX8_playWet_145 rfl ?_
  refine r_iload hC dX8_playWet_147 rfl ?_
  refine r_iload hC dX8_playWet_149 rfl ?_
  refine r_imul hC dX8_playWet_151 ?_
  refine r_iload hC dX8_playWet_152 rfl ?_
  obtain ⟨o1, hw⟩ := hw
  refine r_idiv hC dX8_playWet_154 o1.1.1 o1.1.2 o1.2.1 o1.2.2 ?_
  refine r_callV hC (d_Trial_gain hw) rfl kC8_gain km8_149 kI8_gain kS8_gain kN8 dd_8_gain ⟨Nat.le_of_ble_eq_true rfl, Nat.le_of_ble_eq_true rfl⟩ rfl (Nat.le_of_ble_eq_true rfl) dX8_playWet_155 (fun r M' hp => ?_)
  obtain ⟨rfl, hw⟩ := hp
  try dsimp only at hw
  exact r_subk (s_Trial_playWet_j2 hC hQ hX62 hw) ⟨rfl, rfl, rfl, rfl, rfl, rfl, rfl, trivial⟩
def w_Trial_playWet_j0 (Q : Mem → Prop) (X62 : Int → Mem → Prop) (x1 : Int) (x2 : Int) (x3 : Int) (x4 : Int) (x5 : Int) (x6 : Int) (x7 : Int) (s0 : Int) (M : Mem) : Prop :=
  (-2147483648 ≤ x1 ∧ x1 ≤ 2147483647) ∧ ((x1 ≤ 0 → w_Trial_playWet_j1 Q X62 x1 x2 x3 x4 x5 x6 x7 M) ∧ (¬ (x1 ≤ 0) → (0 ≤ x7 * s0 ∧ x7 * s0 ≤ 2147483647) ∧ (((0 ≤ ((x1 - 1) * 30) + x6 ∧ ((x1 - 1) * 30) + x6 < 180) ∧ (0 ≤ (x7 * s0) / 100 ∧ (x7 * s0) / 100 ≤ 999)) ∧ (∀ M6 : Mem, M6 = mset M 17 (((x1 - 1) * 30) + x6) ((x7 * s0) / 100) → w_Trial_playWet_j1 Q X62 x1 x2 x3 x4 x5 x6 x7 M6))))
set_option maxRecDepth 100000 in
set_option maxHeartbeats 4000000 in
theorem s_Trial_playWet_j0 {Q : Mem → Prop} {X62 : Int → Mem → Prop} {x1 : Int} {x2 : Int} {x3 : Int} {x4 : Int} {x5 : Int} {x6 : Int} {x7 : Int} {s0 : Int} {M : Mem} (hC : rC p R s m args meth c cells slots D aC ad 9 cX8_playWet RX8 1 23 none) (hQ : ∀ (pc : Nat) (L : List (Nat × RV)) (M : Mem), decode cX8_playWet pc = .ok (.return_, 1) → Q M → rG p l e R s m args below meth c cells slots Qs D aC ad 9 pc L [] M) (hX62 : ∀ (x6 : Int) (M : Mem), X62 x6 M → rG p l e R s m args below meth c cells slots Qs D aC ad 9 62 [(0, vR 1), (1, vI x1), (2, vI x2), (3, vI x3), (4, vI x4), (5, vI x5), (6, vI x6)] [] M) (hw : w_Trial_playWet_j0 Q X62 x1 x2 x3 x4 x5 x6 x7 s0 M) : rG p l e R s m args below meth c cells slots Qs D aC ad 9 115 [(0, vR 1), (1, vI x1), (2, vI x2), (3, vI x3), (4, vI x4), (5, vI x5), (6, vI x6), (7, vI x7)] [vI s0] M := by
  unfold w_Trial_playWet_j0 at hw
  refine r_istore hC dX8_playWet_115 (by decide) ?_
  refine r_iload_n hC dX8_playWet_117 rfl rfl ?_
  obtain ⟨o1, hw⟩ := hw
  obtain ⟨hwt, hwf⟩ := hw
  refine r_if_le hC 143 dX8_playWet_118 (by decide) o1.1 o1.2 (fun c3 => ?_) (fun c3 => ?_)
  · have hw := hwt c3
    exact r_subk (s_Trial_playWet_j1 hC hQ hX62 hw) ⟨rfl, rfl, rfl, rfl, rfl, rfl, rfl, rfl, trivial⟩
  · have hw := hwf c3
    refine r_aload_n hC dX8_playWet_121 rfl rfl ?_
    refine r_getR hC 7 rfl (by decide) kf8_45 rfl rfl dX8_playWet_122 ?_
    refine r_iload_n hC dX8_playWet_125 rfl rfl ?_
    refine r_iconst hC dX8_playWet_126 ?_
    refine r_isub hC dX8_playWet_127 ?_
    refine r_bipush hC dX8_playWet_128 (by decide) ?_
    refine r_imul hC dX8_playWet_130 ?_
    refine r_iload hC dX8_playWet_131 rfl ?_
    refine r_iadd hC dX8_playWet_133 ?_
    refine r_iload hC dX8_playWet_134 rfl ?_
    refine r_iload hC dX8_playWet_136 rfl ?_
    refine r_imul hC dX8_playWet_138 ?_
    refine r_bipush hC dX8_playWet_139 (by decide) ?_
    obtain ⟨o4, hw⟩ := hw
    refine r_idiv hC dX8_playWet_141 o4.1 o4.2 (by decide) (by decide) ?_
    obtain ⟨o5, hw⟩ := hw
    refine r_iast hC rfl o5.1.1 o5.1.2 (by decide) (by decide) o5.2.1 o5.2.2 dX8_playWet_142 ?_
    replace hw := hw _ rfl
    exact r_subk (s_Trial_playWet_j1 hC hQ hX62 hw) ⟨rfl, rfl, rfl, rfl, rfl, rfl, rfl, rfl, trivial⟩
def w_Trial_playWet_B0 (Q : Mem → Prop) (x1 : Int) (x2 : Int) (x3 : Int) (x4 : Int) (x5 : Int) (X62 : Int → Mem → Prop) (x6 : Int) (M : Mem) : Prop :=
  ∀ a1 : Int, a1 = M 1 13 → 0 ≤ a1 → a1 ≤ 60 → (-2147483648 ≤ x6 ∧ x6 ≤ 2147483647) ∧ ((a1 ≤ x6 → Q M) ∧ (¬ (a1 ≤ x6) → ∀ a6 : Int, a6 = M 1 12 → 0 ≤ a6 → a6 ≤ 30 → (-2147483648 ≤ x6 ∧ x6 ≤ 2147483647) ∧ ((a6 ≤ x6 → w_Trial_playWet_j2 Q X62 x1 x2 x3 x4 x5 x6 M) ∧ (¬ (a6 ≤ x6) → (0 ≤ (x1 * 30) + x6 ∧ (x1 * 30) + x6 < 180) ∧ (∀ a12 : Int, a12 = M 17 ((x1 * 30) + x6) → 0 ≤ a12 → a12 ≤ 999 → (0 ≤ x1 ∧ x1 < 6) ∧ (∀ a15 : Int, a15 = M 15 x1 → -1 ≤ a15 → a15 ≤ 59 → (¬ (a15 = (-1)) → w_Rules_flow M (fun a20 => w_Trial_playWet_j0 Q X62 x1 x2 x3 x4 x5 x6 a12 a20 M)) ∧ (a15 = (-1) → w_Trial_playWet_j0 Q X62 x1 x2 x3 x4 x5 x6 a12 x2 M)))))))
set_option maxRecDepth 100000 in
set_option maxHeartbeats 4000000 in
theorem s_Trial_playWet_B0 {Q : Mem → Prop} {x1 : Int} {x2 : Int} {x3 : Int} {x4 : Int} {x5 : Int} {X62 : Int → Mem → Prop} {x6 : Int} {M : Mem} (hC : rC p R s m args meth c cells slots D aC ad 9 cX8_playWet RX8 1 23 none) (hQ : ∀ (pc : Nat) (L : List (Nat × RV)) (M : Mem), decode cX8_playWet pc = .ok (.return_, 1) → Q M → rG p l e R s m args below meth c cells slots Qs D aC ad 9 pc L [] M) (hX62 : ∀ (x6 : Int) (M : Mem), X62 x6 M → rG p l e R s m args below meth c cells slots Qs D aC ad 9 62 [(0, vR 1), (1, vI x1), (2, vI x2), (3, vI x3), (4, vI x4), (5, vI x5), (6, vI x6)] [] M) (hw : w_Trial_playWet_B0 Q x1 x2 x3 x4 x5 X62 x6 M) : rG p l e R s m args below meth c cells slots Qs D aC ad 9 62 [(0, vR 1), (1, vI x1), (2, vI x2), (3, vI x3), (4, vI x4), (5, vI x5), (6, vI x6)] [] M := by
  unfold w_Trial_playWet_B0 at hw
  refine r_iload hC dX8_playWet_62 rfl ?_
  refine r_aload_n hC dX8_playWet_64 rfl rfl ?_
  refine r_getI hC 13 rfl (by decide) kf8_63 rfl rfl dX8_playWet_65 (fun b2 b2' => ?_)
  replace hw := hw _ rfl b2 b2'
  obtain ⟨o3, hw⟩ := hw
  obtain ⟨hwt, hwf⟩ := hw
  refine r_icmp_ge hC 230 dX8_playWet_68 (by decide) o3.1 o3.2 (by omega) (by omega) (fun c5 => ?_) (fun c5 => ?_)
  · have hw := hwt c5
    exact hQ _ _ _ dX8_playWet_230 hw
  · have hw := hwf c5
    refine r_iload hC dX8_playWet_71 rfl ?_
    refine r_aload_n hC dX8_playWet_73 rfl rfl ?_
    refine r_getI hC 12 rfl (by decide) kf8_60 rfl rfl dX8_playWet_74 (fun b7 b7' => ?_)
    replace hw := hw _ rfl b7 b7'
    obtain ⟨o8, hw⟩ := hw
    obtain ⟨hwt, hwf⟩ := hw
    refine r_icmp_ge hC 158 dX8_playWet_77 (by decide) o8.1 o8.2 (by omega) (by omega) (fun c10 => ?_) (fun c10 => ?_)
    · have hw := hwt c10
      exact r_subk (s_Trial_playWet_j2 hC hQ hX62 hw) ⟨rfl, rfl, rfl, rfl, rfl, rfl, rfl, trivial⟩
    · have hw := hwf c10
      refine r_aload_n hC dX8_playWet_80 rfl rfl ?_
      refine r_getR hC 7 rfl (by decide) kf8_45 rfl rfl dX8_playWet_81 ?_
      refine r_iload_n hC dX8_playWet_84 rfl rfl ?_
      refine r_bipush hC dX8_playWet_85 (by decide) ?_
      refine r_imul hC dX8_playWet_87 ?_
      refine r_iload hC dX8_playWet_88 rfl ?_
      refine r_iadd hC dX8_playWet_90 ?_
      obtain ⟨o11, hw⟩ := hw
      refine r_iald hC rfl o11.1 o11.2 (by decide) (by decide) dX8_playWet_91 (fun b13 b13' => ?_)
      replace hw := hw _ rfl b13 b13'
      refine r_istore hC dX8_playWet_92 (by decide) ?_
      refine r_aload_n hC dX8_playWet_94 rfl rfl ?_
      refine r_getR hC 5 rfl (by decide) kf8_39 rfl rfl dX8_playWet_95 ?_
      refine r_iload_n hC dX8_playWet_98 rfl rfl ?_
      obtain ⟨o14, hw⟩ := hw
      refine r_iald hC rfl o14.1 o14.2 (by decide) (by decide) dX8_playWet_99 (fun b16 b16' => ?_)
      replace hw := hw _ rfl b16 b16'
      refine r_iconst hC dX8_playWet_100 ?_
      obtain ⟨hwt, hwf⟩ := hw
      refine r_icmp_ne hC 108 dX8_playWet_101 (by decide) (by omega) (by omega) (by decide) (by decide) (fun c19 => ?_) (fun c19 => ?_)
      · have hw := hwt c19
        refine r_aload_n hC dX8_playWet_108 rfl rfl ?_
        refine r_getR hC 2 rfl (by decide) kf8_28 rfl rfl dX8_playWet_109 ?_
        refine r_callV hC (d_Rules_flow hw) rfl kC3_flow km8_146 kI3_flow kS3_flow kN3 dd_3_flow ⟨Nat.le_of_ble_eq_true rfl, Nat.le_of_ble_eq_true rfl⟩ rfl (Nat.le_of_ble_eq_true rfl) dX8_playWet_112 (fun r M' hp => ?_)
        obtain ⟨rfl, a20, rfl, hw⟩ := hp
        try dsimp only at hw
        exact r_subk (s_Trial_playWet_j0 hC hQ hX62 hw) ⟨rfl, rfl, rfl, rfl, rfl, rfl, rfl, rfl, trivial⟩
      · have hw := hwf c19
        refine r_iload_n hC dX8_playWet_104 rfl rfl ?_
        refine r_goto hC 115 dX8_playWet_105 (by decide) ?_
        exact r_subk (s_Trial_playWet_j0 hC hQ hX62 hw) ⟨rfl, rfl, rfl, rfl, rfl, rfl, rfl, rfl, trivial⟩
def w_Trial_playWet_L0 (Q : Mem → Prop) (x1 : Int) (x2 : Int) (x3 : Int) (x4 : Int) (x5 : Int) (x6 : Int) (M : Mem) : Prop :=
  ∀ X : Int → Mem → Prop, (∀ (x6 : Int) (M : Mem), w_Trial_playWet_B0 Q x1 x2 x3 x4 x5 X x6 M → X x6 M) → X x6 M
set_option maxRecDepth 100000 in
set_option maxHeartbeats 4000000 in
theorem s_Trial_playWet_L0 {Q : Mem → Prop} {x1 : Int} {x2 : Int} {x3 : Int} {x4 : Int} {x5 : Int} {x6 : Int} {M : Mem} (hC : rC p R s m args meth c cells slots D aC ad 9 cX8_playWet RX8 1 23 none) (hQ : ∀ (pc : Nat) (L : List (Nat × RV)) (M : Mem), decode cX8_playWet pc = .ok (.return_, 1) → Q M → rG p l e R s m args below meth c cells slots Qs D aC ad 9 pc L [] M) (hw : w_Trial_playWet_L0 Q x1 x2 x3 x4 x5 x6 M) : rG p l e R s m args below meth c cells slots Qs D aC ad 9 62 [(0, vR 1), (1, vI x1), (2, vI x2), (3, vI x3), (4, vI x4), (5, vI x5), (6, vI x6)] [] M := by
  unfold w_Trial_playWet_L0 at hw
  exact hw (fun x6 M => rG p l e R s m args below meth c cells slots Qs D aC ad 9 62 [(0, vR 1), (1, vI x1), (2, vI x2), (3, vI x3), (4, vI x4), (5, vI x5), (6, vI x6)] [] M) (fun x6 M hb => s_Trial_playWet_B0 hC hQ (fun _ _ h => h) hb)
def w_Trial_playWet (M : Mem) (x1 : Int) (Q : Mem → Prop) : Prop :=
  w_Trial_ruleOf M x1 2 (fun a1 => w_Trial_ruleOf M x1 1 (fun a2 => ∀ a3 : Int, a3 = M 1 14 → 0 ≤ a3 → a3 ≤ 3000 → (-2147483648 ≤ a2 + a3 ∧ a2 + a3 ≤ 2147483647) ∧ (w_Trial_ruleOf M x1 0 (fun a7 => w_Trial_valueAt M x1 (fun a8 => ∀ a9 : Int, a9 = M 1 15 → 0 ≤ a9 → a9 ≤ 3000 → (-2147483648 ≤ a8 - a9 ∧ a8 - a9 ≤ 2147483647) ∧ ((0 ≤ x1 ∧ x1 < 6) ∧ (∀ a14 : Int, a14 = M 16 x1 → 0 ≤ a14 → a14 ≤ 1000000 → w_Trial_playWet_L0 Q x1 a1 (min 1000 (a2 + a3)) (a7 * (max 0 (a8 - a9))) (10 * a14) 0 M)))))))
set_option maxRecDepth 100000 in
set_option maxHeartbeats 4000000 in
theorem s_Trial_playWet {M : Mem} {x1 : Int} {Q : Mem → Prop} (hC : rC p R s m args meth c cells slots D aC ad 9 cX8_playWet RX8 1 23 none) (hQ : ∀ (pc : Nat) (L : List (Nat × RV)) (M : Mem), decode cX8_playWet pc = .ok (.return_, 1) → Q M → rG p l e R s m args below meth c cells slots Qs D aC ad 9 pc L [] M) (hw : w_Trial_playWet M x1 Q) : rG p l e R s m args below meth c cells slots Qs D aC ad 9 0 [(0, vR 1), (1, vI x1)] [] M := by
  unfold w_Trial_playWet at hw
  refine r_aload_n hC dX8_playWet_0 rfl rfl ?_
  refine r_iload_n hC dX8_playWet_1 rfl rfl ?_
  refine r_iconst hC dX8_playWet_2 ?_
  refine r_callV hC (d_Trial_ruleOf hw) rfl kC8_ruleOf km8_136 kI8_ruleOf kS8_ruleOf kN8 dd_8_ruleOf ⟨Nat.le_of_ble_eq_true rfl, Nat.le_of_ble_eq_true rfl⟩ rfl (Nat.le_of_ble_eq_true rfl) dX8_playWet_3 (fun r M' hp => ?_)
  obtain ⟨rfl, a1, rfl, hw⟩ := hp
  try dsimp only at hw
  refine r_istore_n hC dX8_playWet_6 rfl (by decide) ?_
  refine r_sipush hC dX8_playWet_7 (by decide) ?_
  refine r_aload_n hC dX8_playWet_10 rfl rfl ?_
  refine r_iload_n hC dX8_playWet_11 rfl rfl ?_
  refine r_iconst hC dX8_playWet_12 ?_
  refine r_callV hC (d_Trial_ruleOf hw) rfl kC8_ruleOf km8_136 kI8_ruleOf kS8_ruleOf kN8 dd_8_ruleOf ⟨Nat.le_of_ble_eq_true rfl, Nat.le_of_ble_eq_true rfl⟩ rfl (Nat.le_of_ble_eq_true rfl) dX8_playWet_13 (fun r M' hp => ?_)
  obtain ⟨rfl, a2, rfl, hw⟩ := hp
  try dsimp only at hw
  refine r_aload_n hC dX8_playWet_16 rfl rfl ?_
  refine r_getI hC 14 rfl (by decide) kf8_75 rfl rfl dX8_playWet_17 (fun b4 b4' => ?_)
  replace hw := hw _ rfl b4 b4'
  refine r_iadd hC dX8_playWet_20 ?_
  obtain ⟨o6, hw⟩ := hw
  refine r_min hC km8_139 (by decide) (Nat.le_of_ble_eq_true rfl) dX8_playWet_21 (by decide) (by decide) o6.1 o6.2 ?_
  refine r_istore_n hC dX8_playWet_24 rfl (by decide) ?_
  refine r_aload_n hC dX8_playWet_25 rfl rfl ?_
  refine r_iload_n hC dX8_playWet_26 rfl rfl ?_
  refine r_iconst hC dX8_playWet_27 ?_
  refine r_callV hC (d_Trial_ruleOf hw) rfl kC8_ruleOf km8_136 kI8_ruleOf kS8_ruleOf kN8 dd_8_ruleOf ⟨Nat.le_of_ble_eq_true rfl, Nat.le_of_ble_eq_true rfl⟩ rfl (Nat.le_of_ble_eq_true rfl) dX8_playWet_28 (fun r M' hp => ?_)
  obtain ⟨rfl, a7, rfl, hw⟩ := hp
  try dsimp only at hw
  refine r_iconst hC dX8_playWet_31 ?_
  refine r_aload_n hC dX8_playWet_32 rfl rfl ?_
  refine r_iload_n hC dX8_playWet_33 rfl rfl ?_
  refine r_callV hC (d_Trial_valueAt hw) rfl kC8_valueAt km8_142 kI8_valueAt kS8_valueAt kN8 dd_8_valueAt ⟨Nat.le_of_ble_eq_true rfl, Nat.le_of_ble_eq_true rfl⟩ rfl (Nat.le_of_ble_eq_true rfl) dX8_playWet_34 (fun r M' hp => ?_)
  obtain ⟨rfl, a8, rfl, hw⟩ := hp
  try dsimp only at hw
  refine r_aload_n hC dX8_playWet_37 rfl rfl ?_
  refine r_getI hC 15 rfl (by decide) kf8_78 rfl rfl dX8_playWet_38 (fun b10 b10' => ?_)
  replace hw := hw _ rfl b10 b10'
  refine r_isub hC dX8_playWet_41 ?_
  obtain ⟨o12, hw⟩ := hw
  refine r_max hC km8_112 (by decide) (Nat.le_of_ble_eq_true rfl) dX8_playWet_42 (by decide) (by decide) o12.1 o12.2 ?_
  refine r_imul hC dX8_playWet_45 ?_
  refine r_istore hC dX8_playWet_46 (by decide) ?_
  refine r_bipush hC dX8_playWet_48 (by decide) ?_
  refine r_aload_n hC dX8_playWet_50 rfl rfl ?_
  refine r_getR hC 6 rfl (by decide) kf8_42 rfl rfl dX8_playWet_51 ?_
  refine r_iload_n hC dX8_playWet_54 rfl rfl ?_
  obtain ⟨o13, hw⟩ := hw
  refine r_iald hC rfl o13.1 o13.2 (by decide) (by decide) dX8_playWet_55 (fun b15 b15' => ?_)
  replace hw := hw _ rfl b15 b15'
  refine r_imul hC dX8_playWet_56 ?_
  refine r_istore hC dX8_playWet_57 (by decide) ?_
  refine r_iconst hC dX8_playWet_59 ?_
  refine r_istore hC dX8_playWet_60 (by decide) ?_
  exact r_subk (s_Trial_playWet_L0 hC hQ hw) ⟨rfl, rfl, rfl, rfl, rfl, rfl, rfl, trivial⟩
set_option maxRecDepth 100000 in
set_option maxHeartbeats 4000000 in
theorem d_Trial_playWet {l : Launch} {D : va_G} {aC : Nat → ClassId} {ad : Nat → Nat} {M : Mem} {x1 : Int} {Q : Mem → Prop} (hw : w_Trial_playWet M x1 Q) : Does l D aC ad yX8_playWet cX8_playWet 9 none 1 23 [vR 1, vI x1] M (pV Q) :=
  Does.of (by decide) (Nat.le_of_ble_eq_true rfl) (fun p e R s m args below meth c hC => r_subk (s_Trial_playWet hC (fun pc L M d h => r_vret hC d ⟨rfl, h⟩) hw) ⟨rfl, rfl, trivial⟩)
theorem dd_8_playWet : yX8_playWet.cls ≠ "java/lang/invoke/MethodHandle" ∧ yX8_playWet.cls ≠ "java/lang/invoke/VarHandle" ∧ (parseMethodDescriptor yX8_playWet.desc).map (fun d => d.parameters.length) = some 1 := by decide +kernel
/-- SoupSand$Trial.play -/
def w_Trial_play_B0 (Q : Mem → Prop) (X5 : Int → Mem → Prop) (x1 : Int) (M : Mem) : Prop :=
  (-2147483648 ≤ x1 ∧ x1 ≤ 2147483647) ∧ ((x1 < 0 → ∀ M5 : Mem, M5 = mset M 1 16 (-1) → Q M5) ∧ (¬ (x1 < 0) → (0 ≤ x1 ∧ x1 < 6) ∧ (∀ M7 : Mem, M7 = mset M 14 x1 0 → (0 ≤ x1 ∧ x1 < 6) ∧ (∀ M9 : Mem, M9 = mset M7 15 x1 (-1) → ∀ a10 : Int, a10 = M9 1 11 → 0 ≤ a10 → a10 ≤ 6 → (-2147483648 ≤ x1 ∧ x1 ≤ 2147483647) ∧ ((x1 < a10 → X5 (x1 + (-1)) M9) ∧ (¬ (x1 < a10) → w_Trial_playWet M9 x1 (fun M16 => X5 (x1 + (-1)) M16)))))))
set_option maxRecDepth 100000 in
set_option maxHeartbeats 4000000 in
theorem s_Trial_play_B0 {Q : Mem → Prop} {X5 : Int → Mem → Prop} {x1 : Int} {M : Mem} (hC : rC p R s m args meth c cells slots D aC ad 2 cX8_play RX8 2 51 none) (hQ : ∀ (pc : Nat) (L : List (Nat × RV)) (M : Mem), decode cX8_play pc = .ok (.return_, 1) → Q M → rG p l e R s m args below meth c cells slots Qs D aC ad 2 pc L [] M) (hX5 : ∀ (x1 : Int) (M : Mem), X5 x1 M → rG p l e R s m args below meth c cells slots Qs D aC ad 2 5 [(0, vR 1), (1, vI x1)] [] M) (hw : w_Trial_play_B0 Q X5 x1 M) : rG p l e R s m args below meth c cells slots Qs D aC ad 2 5 [(0, vR 1), (1, vI x1)] [] M := by
  unfold w_Trial_play_B0 at hw
  refine r_iload_n hC dX8_play_5 rfl rfl ?_
  obtain ⟨o1, hw⟩ := hw
  obtain ⟨hwt, hwf⟩ := hw
  refine r_if_lt hC 42 dX8_play_6 (by decide) o1.1 o1.2 (fun c3 => ?_) (fun c3 => ?_)
  · have hw := hwt c3
    refine r_aload_n hC dX8_play_42 rfl rfl ?_
    refine r_iconst hC dX8_play_43 ?_
    refine r_putI hC 16 rfl (by decide) kf8_66 rfl rfl (by decide) (by decide) dX8_play_44 ?_
    replace hw := hw _ rfl
    exact hQ _ _ _ dX8_play_47 hw
  · have hw := hwf c3
    refine r_aload_n hC dX8_play_9 rfl rfl ?_
    refine r_getR hC 4 rfl (by decide) kf8_36 rfl rfl dX8_play_10 ?_
    refine r_iload_n hC dX8_play_13 rfl rfl ?_
    refine r_iconst hC dX8_play_14 ?_
    obtain ⟨o6, hw⟩ := hw
    refine r_iast hC rfl o6.1 o6.2 (by decide) (by decide) (by decide) (by decide) dX8_play_15 ?_
    replace hw := hw _ rfl
    refine r_aload_n hC dX8_play_16 rfl rfl ?_
    refine r_getR hC 5 rfl (by decide) kf8_39 rfl rfl dX8_play_17 ?_
    refine r_iload_n hC dX8_play_20 rfl rfl ?_
    refine r_iconst hC dX8_play_21 ?_
    obtain ⟨o8, hw⟩ := hw
    refine r_iast hC rfl o8.1 o8.2 (by decide) (by decide) (by decide) (by decide) dX8_play_22 ?_
    replace hw := hw _ rfl
    refine r_iload_n hC dX8_play_23 rfl rfl ?_
    refine r_aload_n hC dX8_play_24 rfl rfl ?_
    refine r_getI hC 11 rfl (by decide) kf8_81 rfl rfl dX8_play_25 (fun b11 b11' => ?_)
    replace hw := hw _ rfl b11 b11'
    obtain ⟨o12, hw⟩ := hw
    obtain ⟨hwt, hwf⟩ := hw
    refine r_icmp_lt hC 36 dX8_play_28 (by decide) o12.1 o12.2 (by omega) (by omega) (fun c14 => ?_) (fun c14 => ?_)
    · have hw := hwt c14
      refine r_iinc hC dX8_play_36 rfl (by decide) ?_
      refine r_goto hC 5 dX8_play_39 (by decide) ?_
      exact r_subk (hX5 _ _ hw) ⟨rfl, rfl, trivial⟩
    · have hw := hwf c14
      refine r_aload_n hC dX8_play_31 rfl rfl ?_
      refine r_iload_n hC dX8_play_32 rfl rfl ?_
      refine r_callV hC (d_Trial_playWet hw) rfl kC8_playWet km8_127 kI8_playWet kS8_playWet kN8 dd_8_playWet ⟨Nat.le_of_ble_eq_true rfl, Nat.le_of_ble_eq_true rfl⟩ rfl (Nat.le_of_ble_eq_true rfl) dX8_play_33 (fun r M' hp => ?_)
      obtain ⟨rfl, hw⟩ := hp
      try dsimp only at hw
      refine r_iinc hC dX8_play_36 rfl (by decide) ?_
      refine r_goto hC 5 dX8_play_39 (by decide) ?_
      exact r_subk (hX5 _ _ hw) ⟨rfl, rfl, trivial⟩
def w_Trial_play_L0 (Q : Mem → Prop) (x1 : Int) (M : Mem) : Prop :=
  ∀ X : Int → Mem → Prop, (∀ (x1 : Int) (M : Mem), w_Trial_play_B0 Q X x1 M → X x1 M) → X x1 M
set_option maxRecDepth 100000 in
set_option maxHeartbeats 4000000 in
theorem s_Trial_play_L0 {Q : Mem → Prop} {x1 : Int} {M : Mem} (hC : rC p R s m args meth c cells slots D aC ad 2 cX8_play RX8 2 51 none) (hQ : ∀ (pc : Nat) (L : List (Nat × RV)) (M : Mem), decode cX8_play pc = .ok (.return_, 1) → Q M → rG p l e R s m args below meth c cells slots Qs D aC ad 2 pc L [] M) (hw : w_Trial_play_L0 Q x1 M) : rG p l e R s m args below meth c cells slots Qs D aC ad 2 5 [(0, vR 1), (1, vI x1)] [] M := by
  unfold w_Trial_play_L0 at hw
  exact hw (fun x1 M => rG p l e R s m args below meth c cells slots Qs D aC ad 2 5 [(0, vR 1), (1, vI x1)] [] M) (fun x1 M hb => s_Trial_play_B0 hC hQ (fun _ _ h => h) hb)
def w_Trial_play (M : Mem) (Q : Mem → Prop) : Prop :=
  ∀ a1 : Int, a1 = M 1 16 → -1 ≤ a1 → a1 ≤ 5 → w_Trial_play_L0 Q a1 M
set_option maxRecDepth 100000 in
set_option maxHeartbeats 4000000 in
theorem s_Trial_play {M : Mem} {Q : Mem → Prop} (hC : rC p R s m args meth c cells slots D aC ad 2 cX8_play RX8 2 51 none) (hQ : ∀ (pc : Nat) (L : List (Nat × RV)) (M : Mem), decode cX8_play pc = .ok (.return_, 1) → Q M → rG p l e R s m args below meth c cells slots Qs D aC ad 2 pc L [] M) (hw : w_Trial_play M Q) : rG p l e R s m args below meth c cells slots Qs D aC ad 2 0 [(0, vR 1)] [] M := by
  unfold w_Trial_play at hw
  refine r_aload_n hC dX8_play_0 rfl rfl ?_
  refine r_getI hC 16 rfl (by decide) kf8_66 rfl rfl dX8_play_1 (fun b2 b2' => ?_)
  replace hw := hw _ rfl b2 b2'
  refine r_istore_n hC dX8_play_4 rfl (by decide) ?_
  exact r_subk (s_Trial_play_L0 hC hQ hw) ⟨rfl, rfl, trivial⟩
set_option maxRecDepth 100000 in
set_option maxHeartbeats 4000000 in
theorem d_Trial_play {l : Launch} {D : va_G} {aC : Nat → ClassId} {ad : Nat → Nat} {M : Mem} {Q : Mem → Prop} (hw : w_Trial_play M Q) : Does l D aC ad yX8_play cX8_play 2 none 2 51 [vR 1] M (pV Q) :=
  Does.of (by decide) (Nat.le_of_ble_eq_true rfl) (fun p e R s m args below meth c hC => r_subk (s_Trial_play hC (fun pc L M d h => r_vret hC d ⟨rfl, h⟩) hw) ⟨rfl, trivial⟩)
theorem dd_8_begin : yX8_begin.cls ≠ "java/lang/invoke/MethodHandle" ∧ yX8_begin.cls ≠ "java/lang/invoke/VarHandle" ∧ (parseMethodDescriptor yX8_begin.desc).map (fun d => d.parameters.length) = some 1 := by decide +kernel
theorem dd_8_play : yX8_play.cls ≠ "java/lang/invoke/MethodHandle" ∧ yX8_play.cls ≠ "java/lang/invoke/VarHandle" ∧ (parseMethodDescriptor yX8_play.desc).map (fun d => d.parameters.length) = some 0 := by decide +kernel
theorem dd_8_under : yX8_under.cls ≠ "java/lang/invoke/MethodHandle" ∧ yX8_under.cls ≠ "java/lang/invoke/VarHandle" ∧ (parseMethodDescriptor yX8_under.desc).map (fun d => d.parameters.length) = some 3 := by decide +kernel
/-- SoupSand$Trial.runFirst -/
def w_Trial_runFirst (M : Mem) (x1 : Int) (x2 : Int) (Q : Mem → Prop) : Prop :=
  w_Trial_begin M x1 (fun M2 => w_Trial_under M2 x2 0 0 (fun M4 => w_Trial_play M4 (fun M6 => Q M6)))
set_option maxRecDepth 100000 in
set_option maxHeartbeats 4000000 in
theorem s_Trial_runFirst {M : Mem} {x1 : Int} {x2 : Int} {Q : Mem → Prop} (hC : rC p R s m args meth c cells slots D aC ad 3 cX8_runFirst RX8 3 73 none) (hQ : ∀ (pc : Nat) (L : List (Nat × RV)) (M : Mem), decode cX8_runFirst pc = .ok (.return_, 1) → Q M → rG p l e R s m args below meth c cells slots Qs D aC ad 3 pc L [] M) (hw : w_Trial_runFirst M x1 x2 Q) : rG p l e R s m args below meth c cells slots Qs D aC ad 3 0 [(0, vR 1), (1, vI x1), (2, vI x2)] [] M := by
  unfold w_Trial_runFirst at hw
  refine r_aload_n hC dX8_runFirst_0 rfl rfl ?_
  refine r_iload_n hC dX8_runFirst_1 rfl rfl ?_
  refine r_callV hC (d_Trial_begin hw) rfl kC8_begin km8_101 kI8_begin kS8_begin kN8 dd_8_begin ⟨Nat.le_of_ble_eq_true rfl, Nat.le_of_ble_eq_true rfl⟩ rfl (Nat.le_of_ble_eq_true rfl) dX8_runFirst_2 (fun r M' hp => ?_)
  obtain ⟨rfl, hw⟩ := hp
  try dsimp only at hw
  refine r_aload_n hC dX8_runFirst_5 rfl rfl ?_
  refine r_iload_n hC dX8_runFirst_6 rfl rfl ?_
  refine r_iconst hC dX8_runFirst_7 ?_
  refine r_iconst hC dX8_runFirst_8 ?_
  refine r_callV hC (d_Trial_under hw) rfl kC8_under km8_105 kI8_under kS8_under kN8 dd_8_under ⟨Nat.le_of_ble_eq_true rfl, Nat.le_of_ble_eq_true rfl⟩ rfl (Nat.le_of_ble_eq_true rfl) dX8_runFirst_9 (fun r M' hp => ?_)
  obtain ⟨rfl, hw⟩ := hp
  try dsimp only at hw
  refine r_aload_n hC dX8_runFirst_12 rfl rfl ?_
  refine r_callV hC (d_Trial_play hw) rfl kC8_play km8_109 kI8_play kS8_play kN8 dd_8_play ⟨Nat.le_of_ble_eq_true rfl, Nat.le_of_ble_eq_true rfl⟩ rfl (Nat.le_of_ble_eq_true rfl) dX8_runFirst_13 (fun r M' hp => ?_)
  obtain ⟨rfl, hw⟩ := hp
  try dsimp only at hw
  exact hQ _ _ _ dX8_runFirst_16 hw
set_option maxRecDepth 100000 in
set_option maxHeartbeats 4000000 in
theorem d_Trial_runFirst {l : Launch} {D : va_G} {aC : Nat → ClassId} {ad : Nat → Nat} {M : Mem} {x1 : Int} {x2 : Int} {Q : Mem → Prop} (hw : w_Trial_runFirst M x1 x2 Q) : Does l D aC ad yX8_runFirst cX8_runFirst 3 none 3 73 [vR 1, vI x1, vI x2] M (pV Q) :=
  Does.of (by decide) (Nat.le_of_ble_eq_true rfl) (fun p e R s m args below meth c hC => r_subk (s_Trial_runFirst hC (fun pc L M d h => r_vret hC d ⟨rfl, h⟩) hw) ⟨rfl, rfl, rfl, trivial⟩)
theorem dd_8_runFirst : yX8_runFirst.cls ≠ "java/lang/invoke/MethodHandle" ∧ yX8_runFirst.cls ≠ "java/lang/invoke/VarHandle" ∧ (parseMethodDescriptor yX8_runFirst.desc).map (fun d => d.parameters.length) = some 2 := by decide +kernel
/-- SoupSand.run -/
def w_S_run (M : Mem) (x1 : Int) (x2 : Int) (x3 : Int) (x4 : Int) (Q : Int → Mem → Prop) : Prop :=
  w_Ground_hasLayer M x1 x3 (fun a1 => (-2147483648 ≤ a1 ∧ a1 ≤ 2147483647) ∧ ((a1 = 0 → Q (-1001) M) ∧ (¬ (a1 = 0) → w_Shakes_hasShake M x2 (fun a5 => (-2147483648 ≤ a5 ∧ a5 ≤ 2147483647) ∧ ((¬ (a5 = 0) → w_S_beyond M x4 0 1 (fun a9 => (-2147483648 ≤ a9 ∧ a9 ≤ 2147483647) ∧ ((a9 = 0 → w_Trial_runFirst M x1 x2 (fun M14 => (-2147483648 ≤ x4 ∧ x4 ≤ 2147483647) ∧ ((¬ (x4 = 0) → (0 ≤ x3 ∧ x3 < 6) ∧ (∀ a19 : Int, a19 = M14 15 x3 → -1 ≤ a19 → a19 ≤ 59 → Q a19 M14)) ∧ (x4 = 0 → (0 ≤ x3 ∧ x3 < 6) ∧ (∀ a22 : Int, a22 = M14 14 x3 → 0 ≤ a22 → a22 ≤ 20000000 → Q a22 M14))))) ∧ (¬ (a9 = 0) → Q (-1002) M)))) ∧ (a5 = 0 → Q (-1001) M))))))
set_option maxRecDepth 100000 in
set_option maxHeartbeats 4000000 in
theorem s_S_run {M : Mem} {x1 : Int} {x2 : Int} {x3 : Int} {x4 : Int} {Q : Int → Mem → Prop} (hC : rC p R s m args meth c cells slots D aC ad 5 cX11_run RX11 4 95 (some .int)) (hQ : ∀ (pc : Nat) (L : List (Nat × RV)) (z : Int) (M : Mem), decode cX11_run pc = .ok (.ireturn, 1) → Q z M → rG p l e R s m args below meth c cells slots Qs D aC ad 5 pc L [vI z] M) (hw : w_S_run M x1 x2 x3 x4 Q) : rG p l e R s m args below meth c cells slots Qs D aC ad 5 0 [(0, vR 0), (1, vI x1), (2, vI x2), (3, vI x3), (4, vI x4)] [] M := by
  unfold w_S_run at hw
  refine r_aload_n hC dX11_run_0 rfl rfl ?_
  refine r_getR hC 1 rfl (by decide) kf11_20 rfl rfl dX11_run_1 ?_
  refine r_iload_n hC dX11_run_4 rfl rfl ?_
  refine r_iload_n hC dX11_run_5 rfl rfl ?_
  refine r_callV hC (d_Ground_hasLayer hw) rfl kC0_hasLayer km11_107 kI0_hasLayer kS0_hasLayer kN0 dd_0_hasLayer ⟨Nat.le_of_ble_eq_true rfl, Nat.le_of_ble_eq_true rfl⟩ rfl (Nat.le_of_ble_eq_true rfl) dX11_run_6 (fun r M' hp => ?_)
  obtain ⟨rfl, a1, rfl, hw⟩ := hp
  try dsimp only at hw
  obtain ⟨o2, hw⟩ := hw
  obtain ⟨hwt, hwf⟩ := hw
  refine r_if_eq hC 23 dX11_run_9 (by decide) o2.1 o2.2 (fun c4 => ?_) (fun c4 => ?_)
  · have hw := hwt c4
    refine r_sipush hC dX11_run_23 (by decide) ?_
    exact hQ _ _ _ _ dX11_run_26 hw
  · have hw := hwf c4
    refine r_aload_n hC dX11_run_12 rfl rfl ?_
    refine r_getR hC 2 rfl (by decide) kf11_25 rfl rfl dX11_run_13 ?_
    refine r_iload_n hC dX11_run_16 rfl rfl ?_
    refine r_callV hC (d_Shakes_hasShake hw) rfl kC4_hasShake km11_147 kI4_hasShake kS4_hasShake kN4 dd_4_hasShake ⟨Nat.le_of_ble_eq_true rfl, Nat.le_of_ble_eq_true rfl⟩ rfl (Nat.le_of_ble_eq_true rfl) dX11_run_17 (fun r M' hp => ?_)
    obtain ⟨rfl, a5, rfl, hw⟩ := hp
    try dsimp only at hw
    obtain ⟨o6, hw⟩ := hw
    obtain ⟨hwt, hwf⟩ := hw
    refine r_if_ne hC 27 dX11_run_20 (by decide) o6.1 o6.2 (fun c8 => ?_) (fun c8 => ?_)
    · have hw := hwt c8
      refine r_iload hC dX11_run_27 rfl ?_
      refine r_iconst hC dX11_run_29 ?_
      refine r_iconst hC dX11_run_30 ?_
      refine r_callS hC (d_S_beyond hw) kC11_beyond km11_86 kT11_beyond kN11 dd_11_beyond ⟨Nat.le_of_ble_eq_true rfl, Nat.le_of_ble_eq_true rfl⟩ rfl (Nat.le_of_ble_eq_true rfl) dX11_run_31 (fun r M' hp => ?_)
      obtain ⟨rfl, a9, rfl, hw⟩ := hp
      try dsimp only at hw
      obtain ⟨o10, hw⟩ := hw
      obtain ⟨hwt, hwf⟩ := hw
      refine r_if_eq hC 41 dX11_run_34 (by decide) o10.1 o10.2 (fun c12 => ?_) (fun c12 => ?_)
      · have hw := hwt c12
        refine r_aload_n hC dX11_run_41 rfl rfl ?_
        refine r_getR hC 0 rfl (by decide) kf11_10 rfl rfl dX11_run_42 ?_
        refine r_iload_n hC dX11_run_45 rfl rfl ?_
        refine r_iload_n hC dX11_run_46 rfl rfl ?_
        refine r_callV hC (d_Trial_runFirst hw) rfl kC8_runFirst km11_175 kI8_runFirst kS8_runFirst kN8 dd_8_runFirst ⟨Nat.le_of_ble_eq_true rfl, Nat.le_of_ble_eq_true rfl⟩ rfl (Nat.le_of_ble_eq_true rfl) dX11_run_47 (fun r M' hp => ?_)
        obtain ⟨rfl, hw⟩ := hp
        try dsimp only at hw
        refine r_iload hC dX11_run_50 rfl ?_
        obtain ⟨o15, hw⟩ := hw
        obtain ⟨hwt, hwf⟩ := hw
        refine r_if_ne hC 67 dX11_run_52 (by decide) o15.1 o15.2 (fun c17 => ?_) (fun c17 => ?_)
        · have hw := hwt c17
          refine r_aload_n hC dX11_run_67 rfl rfl ?_
          refine r_getR hC 0 rfl (by decide) kf11_10 rfl rfl dX11_run_68 ?_
          refine r_getR hC 5 rfl (by decide) kf11_182 rfl rfl dX11_run_71 ?_
          refine r_iload_n hC dX11_run_74 rfl rfl ?_
          obtain ⟨o18, hw⟩ := hw
          refine r_iald hC rfl o18.1 o18.2 (by decide) (by decide) dX11_run_75 (fun b20 b20' => ?_)
          replace hw := hw _ rfl b20 b20'
          exact hQ _ _ _ _ dX11_run_76 hw
        · have hw := hwf c17
          refine r_aload_n hC dX11_run_55 rfl rfl ?_
          refine r_getR hC 0 rfl (by decide) kf11_10 rfl rfl dX11_run_56 ?_
          refine r_getR hC 4 rfl (by decide) kf11_179 rfl rfl dX11_run_59 ?_
          refine r_iload_n hC dX11_run_62 rfl rfl ?_
          obtain ⟨o21, hw⟩ := hw
          refine r_iald hC rfl o21.1 o21.2 (by decide) (by decide) dX11_run_63 (fun b23 b23' => ?_)
          replace hw := hw _ rfl b23 b23'
          refine r_goto hC 76 dX11_run_64 (by decide) ?_
          exact hQ _ _ _ _ dX11_run_76 hw
      · have hw := hwf c12
        refine r_sipush hC dX11_run_37 (by decide) ?_
        exact hQ _ _ _ _ dX11_run_40 hw
    · have hw := hwf c8
      refine r_sipush hC dX11_run_23 (by decide) ?_
      exact hQ _ _ _ _ dX11_run_26 hw
set_option maxRecDepth 100000 in
set_option maxHeartbeats 4000000 in
theorem d_S_run {l : Launch} {D : va_G} {aC : Nat → ClassId} {ad : Nat → Nat} {M : Mem} {x1 : Int} {x2 : Int} {x3 : Int} {x4 : Int} {Q : Int → Mem → Prop} (hw : w_S_run M x1 x2 x3 x4 Q) : Does l D aC ad yX11_run cX11_run 5 (some .int) 4 95 [vR 0, vI x1, vI x2, vI x3, vI x4] M (pI Q) :=
  Does.of (by decide) (Nat.le_of_ble_eq_true rfl) (fun p e R s m args below meth c hC => r_subk (s_S_run hC (fun pc L z M d h => r_iret hC d ⟨z, rfl, h⟩) hw) ⟨rfl, rfl, rfl, rfl, rfl, trivial⟩)
/-- SoupSand$Ground.choicesOf -/
def w_Ground_choicesOf_B0 (Q : Int → Prop) (x1 : Int) (M : Mem) (X4 : Int → Int → Prop) (x2 : Int) (x3 : Int) : Prop :=
  (0 ≤ x1 ∧ x1 < 6) ∧ (∀ a2 : Int, a2 = M 21 x1 → 0 ≤ a2 → a2 ≤ 6 → (-2147483648 ≤ x3 ∧ x3 ≤ 2147483647) ∧ ((a2 ≤ x3 → Q x2) ∧ (¬ (a2 ≤ x3) → (0 ≤ (x1 * 6) + x3 ∧ (x1 * 6) + x3 < 36) ∧ (∀ a8 : Int, a8 = M 24 ((x1 * 6) + x3) → 0 ≤ a8 → a8 ≤ 3 → X4 (x2 * a8) (x3 + 1)))))
set_option maxRecDepth 100000 in
set_option maxHeartbeats 4000000 in
theorem s_Ground_choicesOf_B0 {Q : Int → Prop} {x1 : Int} {M : Mem} {X4 : Int → Int → Prop} {x2 : Int} {x3 : Int} (hC : rC p R s m args meth c cells slots D aC ad 4 cX0_choicesOf RX0 0 0 (some .int)) (hQ : ∀ (pc : Nat) (L : List (Nat × RV)) (z : Int), decode cX0_choicesOf pc = .ok (.ireturn, 1) → Q z → rG p l e R s m args below meth c cells slots Qs D aC ad 4 pc L [vI z] M) (hX4 : ∀ (x2 : Int) (x3 : Int), X4 x2 x3 → rG p l e R s m args below meth c cells slots Qs D aC ad 4 4 [(0, vR 2), (1, vI x1), (2, vI x2), (3, vI x3)] [] M) (hw : w_Ground_choicesOf_B0 Q x1 M X4 x2 x3) : rG p l e R s m args below meth c cells slots Qs D aC ad 4 4 [(0, vR 2), (1, vI x1), (2, vI x2), (3, vI x3)] [] M := by
  unfold w_Ground_choicesOf_B0 at hw
  refine r_iload_n hC dX0_choicesOf_4 rfl rfl ?_
  refine r_aload_n hC dX0_choicesOf_5 rfl rfl ?_
  refine r_getR hC 2 rfl (by decide) kf0_18 rfl rfl dX0_choicesOf_6 ?_
  refine r_iload_n hC dX0_choicesOf_9 rfl rfl ?_
  obtain ⟨o1, hw⟩ := hw
  refine r_iald hC rfl o1.1 o1.2 (by decide) (by decide) dX0_choicesOf_10 (fun b3 b3' => ?_)
  replace hw := hw _ rfl b3 b3'
  obtain ⟨o4, hw⟩ := hw
  obtain ⟨hwt, hwf⟩ := hw
  refine r_icmp_ge hC 34 dX0_choicesOf_11 (by decide) o4.1 o4.2 (by omega) (by omega) (fun c6 => ?_) (fun c6 => ?_)
  · have hw := hwt c6
    refine r_iload_n hC dX0_choicesOf_34 rfl rfl ?_
    exact hQ _ _ _ dX0_choicesOf_35 hw
  · have hw := hwf c6
    refine r_iload_n hC dX0_choicesOf_14 rfl rfl ?_
    refine r_aload_n hC dX0_choicesOf_15 rfl rfl ?_
    refine r_getR hC 5 rfl (by decide) kf0_27 rfl rfl dX0_choicesOf_16 ?_
    refine r_iload_n hC dX0_choicesOf_19 rfl rfl ?_
    refine r_bipush hC dX0_choicesOf_20 (by decide) ?_
    refine r_imul hC dX0_choicesOf_22 ?_
    refine r_iload_n hC dX0_choicesOf_23 rfl rfl ?_
    refine r_iadd hC dX0_choicesOf_24 ?_
    obtain ⟨o7, hw⟩ := hw
    refine r_iald hC rfl o7.1 o7.2 (by decide) (by decide) dX0_choicesOf_25 (fun b9 b9' => ?_)
    replace hw := hw _ rfl b9 b9'
    refine r_imul hC dX0_choicesOf_26 ?_
    refine r_istore_n hC dX0_choicesOf_27 rfl (by decide) ?_
    refine r_iinc hC dX0_choicesOf_28 rfl (by decide) ?_
    refine r_goto hC 4 dX0_choicesOf_31 (by decide) ?_
    exact r_subk (hX4 _ _ hw) ⟨rfl, rfl, rfl, rfl, trivial⟩
def w_Ground_choicesOf_L0 (Q : Int → Prop) (x1 : Int) (M : Mem) (x2 : Int) (x3 : Int) : Prop :=
  ∀ X : Int → Int → Prop, (∀ (x2 : Int) (x3 : Int), w_Ground_choicesOf_B0 Q x1 M X x2 x3 → X x2 x3) → X x2 x3
set_option maxRecDepth 100000 in
set_option maxHeartbeats 4000000 in
theorem s_Ground_choicesOf_L0 {Q : Int → Prop} {x1 : Int} {M : Mem} {x2 : Int} {x3 : Int} (hC : rC p R s m args meth c cells slots D aC ad 4 cX0_choicesOf RX0 0 0 (some .int)) (hQ : ∀ (pc : Nat) (L : List (Nat × RV)) (z : Int), decode cX0_choicesOf pc = .ok (.ireturn, 1) → Q z → rG p l e R s m args below meth c cells slots Qs D aC ad 4 pc L [vI z] M) (hw : w_Ground_choicesOf_L0 Q x1 M x2 x3) : rG p l e R s m args below meth c cells slots Qs D aC ad 4 4 [(0, vR 2), (1, vI x1), (2, vI x2), (3, vI x3)] [] M := by
  unfold w_Ground_choicesOf_L0 at hw
  exact hw (fun x2 x3 => rG p l e R s m args below meth c cells slots Qs D aC ad 4 4 [(0, vR 2), (1, vI x1), (2, vI x2), (3, vI x3)] [] M) (fun x2 x3 hb => s_Ground_choicesOf_B0 hC hQ (fun _ _ h => h) hb)
def w_Ground_choicesOf (M : Mem) (x1 : Int) (Q : Int → Prop) : Prop :=
  w_Ground_choicesOf_L0 Q x1 M 1 0
set_option maxRecDepth 100000 in
set_option maxHeartbeats 4000000 in
theorem s_Ground_choicesOf {M : Mem} {x1 : Int} {Q : Int → Prop} (hC : rC p R s m args meth c cells slots D aC ad 4 cX0_choicesOf RX0 0 0 (some .int)) (hQ : ∀ (pc : Nat) (L : List (Nat × RV)) (z : Int), decode cX0_choicesOf pc = .ok (.ireturn, 1) → Q z → rG p l e R s m args below meth c cells slots Qs D aC ad 4 pc L [vI z] M) (hw : w_Ground_choicesOf M x1 Q) : rG p l e R s m args below meth c cells slots Qs D aC ad 4 0 [(0, vR 2), (1, vI x1)] [] M := by
  unfold w_Ground_choicesOf at hw
  refine r_iconst hC dX0_choicesOf_0 ?_
  refine r_istore_n hC dX0_choicesOf_1 rfl (by decide) ?_
  refine r_iconst hC dX0_choicesOf_2 ?_
  refine r_istore_n hC dX0_choicesOf_3 rfl (by decide) ?_
  exact r_subk (s_Ground_choicesOf_L0 hC hQ hw) ⟨rfl, rfl, rfl, rfl, trivial⟩
set_option maxRecDepth 100000 in
set_option maxHeartbeats 4000000 in
theorem d_Ground_choicesOf {l : Launch} {D : va_G} {aC : Nat → ClassId} {ad : Nat → Nat} {M : Mem} {x1 : Int} {Q : Int → Prop} (hw : w_Ground_choicesOf M x1 Q) : Does l D aC ad yX0_choicesOf cX0_choicesOf 4 (some .int) 0 0 [vR 2, vI x1] M (qI M Q) :=
  Does.of (by decide) (Nat.le_of_ble_eq_true rfl) (fun p e R s m args below meth c hC => r_subk (s_Ground_choicesOf hC (fun pc L z d h => r_iret hC d ⟨rfl, ⟨z, rfl, h⟩⟩) hw) ⟨rfl, rfl, trivial⟩)
/-- SoupSand$Words.setOf -/
def w_Words_setOf_B0 (Q : Int → Prop) (x1 : Int) (x2 : Int) (x3 : Int) (M : Mem) (X6 : Int → Int → Prop) (x4 : Int) (x5 : Int) : Prop :=
  ∀ a1 : Int, a1 = M 5 5 → 0 ≤ a1 → a1 ≤ 16 → (-2147483648 ≤ x5 ∧ x5 ≤ 2147483647) ∧ ((a1 ≤ x5 → Q x4) ∧ (¬ (a1 ≤ x5) → (0 ≤ x5 ∧ x5 < 16) ∧ (∀ a7 : Int, a7 = M 31 x5 → 0 ≤ a7 → a7 ≤ 5 → (-2147483648 ≤ x1 ∧ x1 ≤ 2147483647) ∧ ((¬ (a7 = x1) → X6 x4 (x5 + 1)) ∧ (a7 = x1 → (0 ≤ x5 ∧ x5 < 16) ∧ (∀ a13 : Int, a13 = M 32 x5 → 0 ≤ a13 → a13 ≤ 2 → (-2147483648 ≤ x2 ∧ x2 ≤ 2147483647) ∧ ((¬ (a13 = x2) → X6 x4 (x5 + 1)) ∧ (a13 = x2 → (0 ≤ x5 ∧ x5 < 16) ∧ (∀ a19 : Int, a19 = M 33 x5 → 0 ≤ a19 → a19 ≤ 5 → (-2147483648 ≤ x3 ∧ x3 ≤ 2147483647) ∧ ((¬ (a19 = x3) → X6 x4 (x5 + 1)) ∧ (a19 = x3 → X6 (bOr x4 (bShl 1 x5)) (x5 + 1))))))))))))
set_option maxRecDepth 100000 in
set_option maxHeartbeats 4000000 in
theorem s_Words_setOf_B0 {Q : Int → Prop} {x1 : Int} {x2 : Int} {x3 : Int} {M : Mem} {X6 : Int → Int → Prop} {x4 : Int} {x5 : Int} (hC : rC p R s m args meth c cells slots D aC ad 6 cX9_setOf RX9 0 0 (some .int)) (hQ : ∀ (pc : Nat) (L : List (Nat × RV)) (z : Int), decode cX9_setOf pc = .ok (.ireturn, 1) → Q z → rG p l e R s m args below meth c cells slots Qs D aC ad 6 pc L [vI z] M) (hX6 : ∀ (x4 : Int) (x5 : Int), X6 x4 x5 → rG p l e R s m args below meth c cells slots Qs D aC ad 6 6 [(0, vR 5), (1, vI x1), (2, vI x2), (3, vI x3), (4, vI x4), (5, vI x5)] [] M) (hw : w_Words_setOf_B0 Q x1 x2 x3 M X6 x4 x5) : rG p l e R s m args below meth c cells slots Qs D aC ad 6 6 [(0, vR 5), (1, vI x1), (2, vI x2), (3, vI x3), (4, vI x4), (5, vI x5)] [] M := by
  unfold w_Words_setOf_B0 at hw
  refine r_iload hC dX9_setOf_6 rfl ?_
  refine r_aload_n hC dX9_setOf_8 rfl rfl ?_
  refine r_getI hC 5 rfl (by decide) kf9_33 rfl rfl dX9_setOf_9 (fun b2 b2' => ?_)
  replace hw := hw _ rfl b2 b2'
  obtain ⟨o3, hw⟩ := hw
  obtain ⟨hwt, hwf⟩ := hw
  refine r_icmp_ge hC 63 dX9_setOf_12 (by decide) o3.1 o3.2 (by omega) (by omega) (fun c5 => ?_) (fun c5 => ?_)
  · have hw := hwt c5
    refine r_iload hC dX9_setOf_63 rfl ?_
    exact hQ _ _ _ dX9_setOf_65 hw
  · have hw := hwf c5
    refine r_aload_n hC dX9_setOf_15 rfl rfl ?_
    refine r_getR hC 0 rfl (by decide) kf9_9 rfl rfl dX9_setOf_16 ?_
    refine r_iload hC dX9_setOf_19 rfl ?_
    obtain ⟨o6, hw⟩ := hw
    refine r_iald hC rfl o6.1 o6.2 (by decide) (by decide) dX9_setOf_21 (fun b8 b8' => ?_)
    replace hw := hw _ rfl b8 b8'
    refine r_iload_n hC dX9_setOf_22 rfl rfl ?_
    obtain ⟨o10, hw⟩ := hw
    obtain ⟨hwt, hwf⟩ := hw
    refine r_icmp_ne hC 57 dX9_setOf_23 (by decide) (by omega) (by omega) o10.1 o10.2 (fun c11 => ?_) (fun c11 => ?_)
    · have hw := hwt c11
      refine r_iinc hC dX9_setOf_57 rfl (by decide) ?_
      refine r_goto hC 6 dX9_setOf_60 (by decide) ?_
      exact r_subk (hX6 _ _ hw) ⟨rfl, rfl, rfl, rfl, rfl, rfl, trivial⟩
    · have hw := hwf c11
      refine r_aload_n hC dX9_setOf_26 rfl rfl ?_
      refine r_getR hC 1 rfl (by decide) kf9_15 rfl rfl dX9_setOf_27 ?_
      refine r_iload hC dX9_setOf_30 rfl ?_
      obtain ⟨o12, hw⟩ := hw
      refine r_iald hC rfl o12.1 o12.2 (by decide) (by decide) dX9_setOf_32 (fun b14 b14' => ?_)
      replace hw := hw _ rfl b14 b14'
      refine r_iload_n hC dX9_setOf_33 rfl rfl ?_
      obtain ⟨o16, hw⟩ := hw
      obtain ⟨hwt, hwf⟩ := hw
      refine r_icmp_ne hC 57 dX9_setOf_34 (by decide) (by omega) (by omega) o16.1 o16.2 (fun c17 => ?_) (fun c17 => ?_)
      · have hw := hwt c17
        refine r_iinc hC dX9_setOf_57 rfl (by decide) ?_
        refine r_goto hC 6 dX9_setOf_60 (by decide) ?_
        exact r_subk (hX6 _ _ hw) ⟨rfl, rfl, rfl, rfl, rfl, rfl, trivial⟩
      · have hw := hwf c17
        refine r_aload_n hC dX9_setOf_37 rfl rfl ?_
        refine r_getR hC 2 rfl (by decide) kf9_18 rfl rfl dX9_setOf_38 ?_
        refine r_iload hC dX9_setOf_41 rfl ?_
        obtain ⟨o18, hw⟩ := hw
        refine r_iald hC rfl o18.1 o18.2 (by decide) (by decide) dX9_setOf_43 (fun b20 b20' => ?_)
        replace hw := hw _ rfl b20 b20'
        refine r_iload_n hC dX9_setOf_44 rfl rfl ?_
        obtain ⟨o22, hw⟩ := hw
        obtain ⟨hwt, hwf⟩ := hw
        refine r_icmp_ne hC 57 dX9_setOf_45 (by decide) (by omega) (by omega) o22.1 o22.2 (fun c23 => ?_) (fun c23 => ?_)
        · have hw := hwt c23
          refine r_iinc hC dX9_setOf_57 rfl (by decide) ?_
          refine r_goto hC 6 dX9_setOf_60 (by decide) ?_
          exact r_subk (hX6 _ _ hw) ⟨rfl, rfl, rfl, rfl, rfl, rfl, trivial⟩
        · have hw := hwf c23
          refine r_iload hC dX9_setOf_48 rfl ?_
          refine r_iconst hC dX9_setOf_50 ?_
          refine r_iload hC dX9_setOf_51 rfl ?_
          refine r_ishl hC dX9_setOf_53 ?_
          refine r_ior hC dX9_setOf_54 ?_
          refine r_istore hC dX9_setOf_55 (by decide) ?_
          refine r_iinc hC dX9_setOf_57 rfl (by decide) ?_
          refine r_goto hC 6 dX9_setOf_60 (by decide) ?_
          exact r_subk (hX6 _ _ hw) ⟨rfl, rfl, rfl, rfl, rfl, rfl, trivial⟩
def w_Words_setOf_L0 (Q : Int → Prop) (x1 : Int) (x2 : Int) (x3 : Int) (M : Mem) (x4 : Int) (x5 : Int) : Prop :=
  ∀ X : Int → Int → Prop, (∀ (x4 : Int) (x5 : Int), w_Words_setOf_B0 Q x1 x2 x3 M X x4 x5 → X x4 x5) → X x4 x5
set_option maxRecDepth 100000 in
set_option maxHeartbeats 4000000 in
theorem s_Words_setOf_L0 {Q : Int → Prop} {x1 : Int} {x2 : Int} {x3 : Int} {M : Mem} {x4 : Int} {x5 : Int} (hC : rC p R s m args meth c cells slots D aC ad 6 cX9_setOf RX9 0 0 (some .int)) (hQ : ∀ (pc : Nat) (L : List (Nat × RV)) (z : Int), decode cX9_setOf pc = .ok (.ireturn, 1) → Q z → rG p l e R s m args below meth c cells slots Qs D aC ad 6 pc L [vI z] M) (hw : w_Words_setOf_L0 Q x1 x2 x3 M x4 x5) : rG p l e R s m args below meth c cells slots Qs D aC ad 6 6 [(0, vR 5), (1, vI x1), (2, vI x2), (3, vI x3), (4, vI x4), (5, vI x5)] [] M := by
  unfold w_Words_setOf_L0 at hw
  exact hw (fun x4 x5 => rG p l e R s m args below meth c cells slots Qs D aC ad 6 6 [(0, vR 5), (1, vI x1), (2, vI x2), (3, vI x3), (4, vI x4), (5, vI x5)] [] M) (fun x4 x5 hb => s_Words_setOf_B0 hC hQ (fun _ _ h => h) hb)
def w_Words_setOf (M : Mem) (x1 : Int) (x2 : Int) (x3 : Int) (Q : Int → Prop) : Prop :=
  w_Words_setOf_L0 Q x1 x2 x3 M 0 0
set_option maxRecDepth 100000 in
set_option maxHeartbeats 4000000 in
theorem s_Words_setOf {M : Mem} {x1 : Int} {x2 : Int} {x3 : Int} {Q : Int → Prop} (hC : rC p R s m args meth c cells slots D aC ad 6 cX9_setOf RX9 0 0 (some .int)) (hQ : ∀ (pc : Nat) (L : List (Nat × RV)) (z : Int), decode cX9_setOf pc = .ok (.ireturn, 1) → Q z → rG p l e R s m args below meth c cells slots Qs D aC ad 6 pc L [vI z] M) (hw : w_Words_setOf M x1 x2 x3 Q) : rG p l e R s m args below meth c cells slots Qs D aC ad 6 0 [(0, vR 5), (1, vI x1), (2, vI x2), (3, vI x3)] [] M := by
  unfold w_Words_setOf at hw
  refine r_iconst hC dX9_setOf_0 ?_
  refine r_istore hC dX9_setOf_1 (by decide) ?_
  refine r_iconst hC dX9_setOf_3 ?_
  refine r_istore hC dX9_setOf_4 (by decide) ?_
  exact r_subk (s_Words_setOf_L0 hC hQ hw) ⟨rfl, rfl, rfl, rfl, rfl, rfl, trivial⟩
set_option maxRecDepth 100000 in
set_option maxHeartbeats 4000000 in
theorem d_Words_setOf {l : Launch} {D : va_G} {aC : Nat → ClassId} {ad : Nat → Nat} {M : Mem} {x1 : Int} {x2 : Int} {x3 : Int} {Q : Int → Prop} (hw : w_Words_setOf M x1 x2 x3 Q) : Does l D aC ad yX9_setOf cX9_setOf 6 (some .int) 0 0 [vR 5, vI x1, vI x2, vI x3] M (qI M Q) :=
  Does.of (by decide) (Nat.le_of_ble_eq_true rfl) (fun p e R s m args below meth c hC => r_subk (s_Words_setOf hC (fun pc L z d h => r_iret hC d ⟨rfl, ⟨z, rfl, h⟩⟩) hw) ⟨rfl, rfl, rfl, rfl, trivial⟩)
/-- SoupSand$Trial.place -/
def w_Trial_place_B0 (Q : Int → Prop) (M : Mem) (X4 : Int → Int → Prop) (x1 : Int) (x2 : Int) : Prop :=
  ∀ a1 : Int, a1 = M 1 10 → 0 ≤ a1 → a1 ≤ 6 → (-2147483648 ≤ x2 ∧ x2 ≤ 2147483647) ∧ ((a1 ≤ x2 → Q x1) ∧ (¬ (a1 ≤ x2) → ∀ a6 : Int, a6 = M 1 9 → 0 ≤ a6 → a6 ≤ 5 → (0 ≤ (a6 * 6) + x2 ∧ (a6 * 6) + x2 < 36) ∧ (∀ a9 : Int, a9 = M 24 ((a6 * 6) + x2) → 0 ≤ a9 → a9 ≤ 3 → (0 ≤ x2 ∧ x2 < 6) ∧ (∀ a12 : Int, a12 = M 13 x2 → 0 ≤ a12 → a12 ≤ 3 → X4 ((x1 * a9) + a12) (x2 + 1)))))
set_option maxRecDepth 100000 in
set_option maxHeartbeats 4000000 in
theorem s_Trial_place_B0 {Q : Int → Prop} {M : Mem} {X4 : Int → Int → Prop} {x1 : Int} {x2 : Int} (hC : rC p R s m args meth c cells slots D aC ad 3 cX8_place RX8 0 0 (some .int)) (hQ : ∀ (pc : Nat) (L : List (Nat × RV)) (z : Int), decode cX8_place pc = .ok (.ireturn, 1) → Q z → rG p l e R s m args below meth c cells slots Qs D aC ad 3 pc L [vI z] M) (hX4 : ∀ (x1 : Int) (x2 : Int), X4 x1 x2 → rG p l e R s m args below meth c cells slots Qs D aC ad 3 4 [(0, vR 1), (1, vI x1), (2, vI x2)] [] M) (hw : w_Trial_place_B0 Q M X4 x1 x2) : rG p l e R s m args below meth c cells slots Qs D aC ad 3 4 [(0, vR 1), (1, vI x1), (2, vI x2)] [] M := by
  unfold w_Trial_place_B0 at hw
  refine r_iload_n hC dX8_place_4 rfl rfl ?_
  refine r_aload_n hC dX8_place_5 rfl rfl ?_
  refine r_getI hC 10 rfl (by decide) kf8_58 rfl rfl dX8_place_6 (fun b2 b2' => ?_)
  replace hw := hw _ rfl b2 b2'
  obtain ⟨o3, hw⟩ := hw
  obtain ⟨hwt, hwf⟩ := hw
  refine r_icmp_ge hC 45 dX8_place_9 (by decide) o3.1 o3.2 (by omega) (by omega) (fun c5 => ?_) (fun c5 => ?_)
  · have hw := hwt c5
    refine r_iload_n hC dX8_place_45 rfl rfl ?_
    exact hQ _ _ _ dX8_place_46 hw
  · have hw := hwf c5
    refine r_iload_n hC dX8_place_12 rfl rfl ?_
    refine r_aload_n hC dX8_place_13 rfl rfl ?_
    refine r_getR hC 0 rfl (by decide) kf8_12 rfl rfl dX8_place_14 ?_
    refine r_getR hC 5 rfl (by decide) kf8_118 rfl rfl dX8_place_17 ?_
    refine r_aload_n hC dX8_place_20 rfl rfl ?_
    refine r_getI hC 9 rfl (by decide) kf8_51 rfl rfl dX8_place_21 (fun b7 b7' => ?_)
    replace hw := hw _ rfl b7 b7'
    refine r_bipush hC dX8_place_24 (by decide) ?_
    refine r_imul hC dX8_place_26 ?_
    refine r_iload_n hC dX8_place_27 rfl rfl ?_
    refine r_iadd hC dX8_place_28 ?_
    obtain ⟨o8, hw⟩ := hw
    refine r_iald hC rfl o8.1 o8.2 (by decide) (by decide) dX8_place_29 (fun b10 b10' => ?_)
    replace hw := hw _ rfl b10 b10'
    refine r_imul hC dX8_place_30 ?_
    refine r_aload_n hC dX8_place_31 rfl rfl ?_
    refine r_getR hC 3 rfl (by decide) kf8_32 rfl rfl dX8_place_32 ?_
    refine r_iload_n hC dX8_place_35 rfl rfl ?_
    obtain ⟨o11, hw⟩ := hw
    refine r_iald hC rfl o11.1 o11.2 (by decide) (by decide) dX8_place_36 (fun b13 b13' => ?_)
    replace hw := hw _ rfl b13 b13'
    refine r_iadd hC dX8_place_37 ?_
    refine r_istore_n hC dX8_place_38 rfl (by decide) ?_
    refine r_iinc hC dX8_place_39 rfl (by decide) ?_
    refine r_goto hC 4 dX8_place_42 (by decide) ?_
    exact r_subk (hX4 _ _ hw) ⟨rfl, rfl, rfl, trivial⟩
def w_Trial_place_L0 (Q : Int → Prop) (M : Mem) (x1 : Int) (x2 : Int) : Prop :=
  ∀ X : Int → Int → Prop, (∀ (x1 : Int) (x2 : Int), w_Trial_place_B0 Q M X x1 x2 → X x1 x2) → X x1 x2
set_option maxRecDepth 100000 in
set_option maxHeartbeats 4000000 in
theorem s_Trial_place_L0 {Q : Int → Prop} {M : Mem} {x1 : Int} {x2 : Int} (hC : rC p R s m args meth c cells slots D aC ad 3 cX8_place RX8 0 0 (some .int)) (hQ : ∀ (pc : Nat) (L : List (Nat × RV)) (z : Int), decode cX8_place pc = .ok (.ireturn, 1) → Q z → rG p l e R s m args below meth c cells slots Qs D aC ad 3 pc L [vI z] M) (hw : w_Trial_place_L0 Q M x1 x2) : rG p l e R s m args below meth c cells slots Qs D aC ad 3 4 [(0, vR 1), (1, vI x1), (2, vI x2)] [] M := by
  unfold w_Trial_place_L0 at hw
  exact hw (fun x1 x2 => rG p l e R s m args below meth c cells slots Qs D aC ad 3 4 [(0, vR 1), (1, vI x1), (2, vI x2)] [] M) (fun x1 x2 hb => s_Trial_place_B0 hC hQ (fun _ _ h => h) hb)
def w_Trial_place (M : Mem) (Q : Int → Prop) : Prop :=
  w_Trial_place_L0 Q M 0 0
set_option maxRecDepth 100000 in
set_option maxHeartbeats 4000000 in
theorem s_Trial_place {M : Mem} {Q : Int → Prop} (hC : rC p R s m args meth c cells slots D aC ad 3 cX8_place RX8 0 0 (some .int)) (hQ : ∀ (pc : Nat) (L : List (Nat × RV)) (z : Int), decode cX8_place pc = .ok (.ireturn, 1) → Q z → rG p l e R s m args below meth c cells slots Qs D aC ad 3 pc L [vI z] M) (hw : w_Trial_place M Q) : rG p l e R s m args below meth c cells slots Qs D aC ad 3 0 [(0, vR 1)] [] M := by
  unfold w_Trial_place at hw
  refine r_iconst hC dX8_place_0 ?_
  refine r_istore_n hC dX8_place_1 rfl (by decide) ?_
  refine r_iconst hC dX8_place_2 ?_
  refine r_istore_n hC dX8_place_3 rfl (by decide) ?_
  exact r_subk (s_Trial_place_L0 hC hQ hw) ⟨rfl, rfl, rfl, trivial⟩
set_option maxRecDepth 100000 in
set_option maxHeartbeats 4000000 in
theorem d_Trial_place {l : Launch} {D : va_G} {aC : Nat → ClassId} {ad : Nat → Nat} {M : Mem} {Q : Int → Prop} (hw : w_Trial_place M Q) : Does l D aC ad yX8_place cX8_place 3 (some .int) 0 0 [vR 1] M (qI M Q) :=
  Does.of (by decide) (Nat.le_of_ble_eq_true rfl) (fun p e R s m args below meth c hC => r_subk (s_Trial_place hC (fun pc L z d h => r_iret hC d ⟨rfl, ⟨z, rfl, h⟩⟩) hw) ⟨rfl, trivial⟩)
/-- SoupSand$Trial.someGone -/
def w_Trial_someGone_B0 (Q : Int → Prop) (M : Mem) (X2 : Int → Prop) (x1 : Int) : Prop :=
  ∀ a1 : Int, a1 = M 1 10 → 0 ≤ a1 → a1 ≤ 6 → (-2147483648 ≤ x1 ∧ x1 ≤ 2147483647) ∧ ((a1 ≤ x1 → Q 0) ∧ (¬ (a1 ≤ x1) → (0 ≤ x1 ∧ x1 < 6) ∧ (∀ a8 : Int, a8 = M 15 x1 → -1 ≤ a8 → a8 ≤ 59 → (a8 = (-1) → X2 (x1 + 1)) ∧ (¬ (a8 = (-1)) → Q 1))))
set_option maxRecDepth 100000 in
set_option maxHeartbeats 4000000 in
theorem s_Trial_someGone_B0 {Q : Int → Prop} {M : Mem} {X2 : Int → Prop} {x1 : Int} (hC : rC p R s m args meth c cells slots D aC ad 2 cX8_someGone RX8 0 0 (some .boolean)) (hQ : ∀ (pc : Nat) (L : List (Nat × RV)) (z : Int), decode cX8_someGone pc = .ok (.ireturn, 1) → 0 ≤ z → z ≤ 1 → Q z → rG p l e R s m args below meth c cells slots Qs D aC ad 2 pc L [vI z] M) (hX2 : ∀ (x1 : Int), X2 x1 → rG p l e R s m args below meth c cells slots Qs D aC ad 2 2 [(0, vR 1), (1, vI x1)] [] M) (hw : w_Trial_someGone_B0 Q M X2 x1) : rG p l e R s m args below meth c cells slots Qs D aC ad 2 2 [(0, vR 1), (1, vI x1)] [] M := by
  unfold w_Trial_someGone_B0 at hw
  refine r_iload_n hC dX8_someGone_2 rfl rfl ?_
  refine r_aload_n hC dX8_someGone_3 rfl rfl ?_
  refine r_getI hC 10 rfl (by decide) kf8_58 rfl rfl dX8_someGone_4 (fun b2 b2' => ?_)
  replace hw := hw _ rfl b2 b2'
  obtain ⟨o3, hw⟩ := hw
  obtain ⟨hwt, hwf⟩ := hw
  refine r_icmp_ge hC 28 dX8_someGone_7 (by decide) o3.1 o3.2 (by omega) (by omega) (fun c5 => ?_) (fun c5 => ?_)
  · have hw := hwt c5
    refine r_iconst hC dX8_someGone_28 ?_
    exact hQ _ _ _ dX8_someGone_29 (by decide) (by decide) hw
  · have hw := hwf c5
    refine r_aload_n hC dX8_someGone_10 rfl rfl ?_
    refine r_getR hC 5 rfl (by decide) kf8_39 rfl rfl dX8_someGone_11 ?_
    refine r_iload_n hC dX8_someGone_14 rfl rfl ?_
    obtain ⟨o7, hw⟩ := hw
    refine r_iald hC rfl o7.1 o7.2 (by decide) (by decide) dX8_someGone_15 (fun b9 b9' => ?_)
    replace hw := hw _ rfl b9 b9'
    refine r_iconst hC dX8_someGone_16 ?_
    obtain ⟨hwt, hwf⟩ := hw
    refine r_icmp_eq hC 22 dX8_someGone_17 (by decide) (by omega) (by omega) (by decide) (by decide) (fun c12 => ?_) (fun c12 => ?_)
    · have hw := hwt c12
      refine r_iinc hC dX8_someGone_22 rfl (by decide) ?_
      refine r_goto hC 2 dX8_someGone_25 (by decide) ?_
      exact r_subk (hX2 _ hw) ⟨rfl, rfl, trivial⟩
    · have hw := hwf c12
      refine r_iconst hC dX8_someGone_20 ?_
      exact hQ _ _ _ dX8_someGone_21 (by decide) (by decide) hw
def w_Trial_someGone_L0 (Q : Int → Prop) (M : Mem) (x1 : Int) : Prop :=
  ∀ X : Int → Prop, (∀ (x1 : Int), w_Trial_someGone_B0 Q M X x1 → X x1) → X x1
set_option maxRecDepth 100000 in
set_option maxHeartbeats 4000000 in
theorem s_Trial_someGone_L0 {Q : Int → Prop} {M : Mem} {x1 : Int} (hC : rC p R s m args meth c cells slots D aC ad 2 cX8_someGone RX8 0 0 (some .boolean)) (hQ : ∀ (pc : Nat) (L : List (Nat × RV)) (z : Int), decode cX8_someGone pc = .ok (.ireturn, 1) → 0 ≤ z → z ≤ 1 → Q z → rG p l e R s m args below meth c cells slots Qs D aC ad 2 pc L [vI z] M) (hw : w_Trial_someGone_L0 Q M x1) : rG p l e R s m args below meth c cells slots Qs D aC ad 2 2 [(0, vR 1), (1, vI x1)] [] M := by
  unfold w_Trial_someGone_L0 at hw
  exact hw (fun x1 => rG p l e R s m args below meth c cells slots Qs D aC ad 2 2 [(0, vR 1), (1, vI x1)] [] M) (fun x1 hb => s_Trial_someGone_B0 hC hQ (fun _ h => h) hb)
def w_Trial_someGone (M : Mem) (Q : Int → Prop) : Prop :=
  w_Trial_someGone_L0 Q M 0
set_option maxRecDepth 100000 in
set_option maxHeartbeats 4000000 in
theorem s_Trial_someGone {M : Mem} {Q : Int → Prop} (hC : rC p R s m args meth c cells slots D aC ad 2 cX8_someGone RX8 0 0 (some .boolean)) (hQ : ∀ (pc : Nat) (L : List (Nat × RV)) (z : Int), decode cX8_someGone pc = .ok (.ireturn, 1) → 0 ≤ z → z ≤ 1 → Q z → rG p l e R s m args below meth c cells slots Qs D aC ad 2 pc L [vI z] M) (hw : w_Trial_someGone M Q) : rG p l e R s m args below meth c cells slots Qs D aC ad 2 0 [(0, vR 1)] [] M := by
  unfold w_Trial_someGone at hw
  refine r_iconst hC dX8_someGone_0 ?_
  refine r_istore_n hC dX8_someGone_1 rfl (by decide) ?_
  exact r_subk (s_Trial_someGone_L0 hC hQ hw) ⟨rfl, rfl, trivial⟩
set_option maxRecDepth 100000 in
set_option maxHeartbeats 4000000 in
theorem d_Trial_someGone {l : Launch} {D : va_G} {aC : Nat → ClassId} {ad : Nat → Nat} {M : Mem} {Q : Int → Prop} (hw : w_Trial_someGone M Q) : Does l D aC ad yX8_someGone cX8_someGone 2 (some .boolean) 0 0 [vR 1] M (qI M Q) :=
  Does.of (by decide) (Nat.le_of_ble_eq_true rfl) (fun p e R s m args below meth c hC => r_subk (s_Trial_someGone hC (fun pc L z d z1 z2 h => r_zret hC d z1 z2 ⟨rfl, ⟨z, rfl, h⟩⟩) hw) ⟨rfl, trivial⟩)
/-- SoupSand$Trial.advance -/
def w_Trial_advance_B0 (Q : Mem → Prop) (X2 : Int → Mem → Prop) (x1 : Int) (M : Mem) : Prop :=
  ∀ a1 : Int, a1 = M 1 10 → 0 ≤ a1 → a1 ≤ 6 → (-2147483648 ≤ x1 ∧ x1 ≤ 2147483647) ∧ ((a1 ≤ x1 → Q M) ∧ (¬ (a1 ≤ x1) → ∀ a6 : Int, a6 = M 1 16 → -1 ≤ a6 → a6 ≤ 5 → (-2147483648 ≤ x1 ∧ x1 ≤ 2147483647) ∧ ((-1 ≤ max a6 x1 ∧ max a6 x1 ≤ 5) ∧ (∀ M11 : Mem, M11 = mset M 1 16 (max a6 x1) → (0 ≤ x1 ∧ x1 < 6) ∧ (∀ a13 : Int, a13 = M11 13 x1 → 0 ≤ a13 → a13 ≤ 3 → ((0 ≤ x1 ∧ x1 < 6) ∧ (0 ≤ a13 + 1 ∧ a13 + 1 ≤ 3)) ∧ (∀ M16 : Mem, M16 = mset M11 13 x1 (a13 + 1) → (0 ≤ x1 ∧ x1 < 6) ∧ (∀ a18 : Int, a18 = M16 13 x1 → 0 ≤ a18 → a18 ≤ 3 → ∀ a20 : Int, a20 = M16 1 9 → 0 ≤ a20 → a20 ≤ 5 → (0 ≤ (a20 * 6) + x1 ∧ (a20 * 6) + x1 < 36) ∧ (∀ a23 : Int, a23 = M16 24 ((a20 * 6) + x1) → 0 ≤ a23 → a23 ≤ 3 → (a23 ≤ a18 → (0 ≤ x1 ∧ x1 < 6) ∧ (∀ M29 : Mem, M29 = mset M16 13 x1 0 → X2 (x1 + 1) M29)) ∧ (¬ (a23 ≤ a18) → Q M16)))))))))
set_option maxRecDepth 100000 in
set_option maxHeartbeats 4000000 in
theorem s_Trial_advance_B0 {Q : Mem → Prop} {X2 : Int → Mem → Prop} {x1 : Int} {M : Mem} (hC : rC p R s m args meth c cells slots D aC ad 2 cX8_advance RX8 1 21 none) (hQ : ∀ (pc : Nat) (L : List (Nat × RV)) (M : Mem), decode cX8_advance pc = .ok (.return_, 1) → Q M → rG p l e R s m args below meth c cells slots Qs D aC ad 2 pc L [] M) (hX2 : ∀ (x1 : Int) (M : Mem), X2 x1 M → rG p l e R s m args below meth c cells slots Qs D aC ad 2 2 [(0, vR 1), (1, vI x1)] [] M) (hw : w_Trial_advance_B0 Q X2 x1 M) : rG p l e R s m args below meth c cells slots Qs D aC ad 2 2 [(0, vR 1), (1, vI x1)] [] M := by
  unfold w_Trial_advance_B0 at hw
  refine r_iload_n hC dX8_advance_2 rfl rfl ?_
  refine r_aload_n hC dX8_advance_3 rfl rfl ?_
  refine r_getI hC 10 rfl (by decide) kf8_58 rfl rfl dX8_advance_4 (fun b2 b2' => ?_)
  replace hw := hw _ rfl b2 b2'
  obtain ⟨o3, hw⟩ := hw
  obtain ⟨hwt, hwf⟩ := hw
  refine r_icmp_ge hC 72 dX8_advance_7 (by decide) o3.1 o3.2 (by omega) (by omega) (fun c5 => ?_) (fun c5 => ?_)
  · have hw := hwt c5
    exact hQ _ _ _ dX8_advance_72 hw
  · have hw := hwf c5
    refine r_aload_n hC dX8_advance_10 rfl rfl ?_
    refine r_aload_n hC dX8_advance_11 rfl rfl ?_
    refine r_getI hC 16 rfl (by decide) kf8_66 rfl rfl dX8_advance_12 (fun b7 b7' => ?_)
    replace hw := hw _ rfl b7 b7'
    refine r_iload_n hC dX8_advance_15 rfl rfl ?_
    obtain ⟨o9, hw⟩ := hw
    refine r_max hC km8_112 (by decide) (Nat.le_of_ble_eq_true rfl) dX8_advance_16 (by omega) (by omega) o9.1 o9.2 ?_
    obtain ⟨o10, hw⟩ := hw
    refine r_putI hC 16 rfl (by decide) kf8_66 rfl rfl o10.1 o10.2 dX8_advance_19 ?_
    replace hw := hw _ rfl
    refine r_aload_n hC dX8_advance_22 rfl rfl ?_
    refine r_getR hC 3 rfl (by decide) kf8_32 rfl rfl dX8_advance_23 ?_
    refine r_iload_n hC dX8_advance_26 rfl rfl ?_
    refine r_dup2 hC dX8_advance_27 rfl rfl ?_
    obtain ⟨o12, hw⟩ := hw
    refine r_iald hC rfl o12.1 o12.2 (by decide) (by decide) dX8_advance_28 (fun b14 b14' => ?_)
    replace hw := hw _ rfl b14 b14'
    refine r_iconst hC dX8_advance_29 ?_
    refine r_iadd hC dX8_advance_30 ?_
    obtain ⟨o15, hw⟩ := hw
    refine r_iast hC rfl o15.1.1 o15.1.2 (by decide) (by decide) o15.2.1 o15.2.2 dX8_advance_31 ?_
    replace hw := hw _ rfl
    refine r_aload_n hC dX8_advance_32 rfl rfl ?_
    refine r_getR hC 3 rfl (by decide) kf8_32 rfl rfl dX8_advance_33 ?_
    refine r_iload_n hC dX8_advance_36 rfl rfl ?_
    obtain ⟨o17, hw⟩ := hw
    refine r_iald hC rfl o17.1 o17.2 (by decide) (by decide) dX8_advance_37 (fun b19 b19' => ?_)
    replace hw := hw _ rfl b19 b19'
    refine r_aload_n hC dX8_advance_38 rfl rfl ?_
    refine r_getR hC 0 rfl (by decide) kf8_12 rfl rfl dX8_advance_39 ?_
    refine r_getR hC 5 rfl (by decide) kf8_118 rfl rfl dX8_advance_42 ?_
    refine r_aload_n hC dX8_advance_45 rfl rfl ?_
    refine r_getI hC 9 rfl (by decide) kf8_51 rfl rfl dX8_advance_46 (fun b21 b21' => ?_)
    replace hw := hw _ rfl b21 b21'
    refine r_bipush hC dX8_advance_49 (by decide) ?_
    refine r_imul hC dX8_advance_51 ?_
    refine r_iload_n hC dX8_advance_52 rfl rfl ?_
    refine r_iadd hC dX8_advance_53 ?_
    obtain ⟨o22, hw⟩ := hw
    refine r_iald hC rfl o22.1 o22.2 (by decide) (by decide) dX8_advance_54 (fun b24 b24' => ?_)
    replace hw := hw _ rfl b24 b24'
    obtain ⟨hwt, hwf⟩ := hw
    refine r_icmp_ge hC 59 dX8_advance_55 (by decide) (by omega) (by omega) (by omega) (by omega) (fun c27 => ?_) (fun c27 => ?_)
    · have hw := hwt c27
      refine r_aload_n hC dX8_advance_59 rfl rfl ?_
      refine r_getR hC 3 rfl (by decide) kf8_32 rfl rfl dX8_advance_60 ?_
      refine r_iload_n hC dX8_advance_63 rfl rfl ?_
      refine r_iconst hC dX8_advance_64 ?_
      obtain ⟨o28, hw⟩ := hw
      refine r_iast hC rfl o28.1 o28.2 (by decide) (by decide) (by decide) (by decide) dX8_advance_65 ?_
      replace hw := hw _ rfl
      refine r_iinc hC dX8_advance_66 rfl (by decide) ?_
      refine r_goto hC 2 dX8_advance_69 (by decide) ?_
      exact r_subk (hX2 _ _ hw) ⟨rfl, rfl, trivial⟩
    · have hw := hwf c27
      exact hQ _ _ _ dX8_advance_58 hw
def w_Trial_advance_L0 (Q : Mem → Prop) (x1 : Int) (M : Mem) : Prop :=
  ∀ X : Int → Mem → Prop, (∀ (x1 : Int) (M : Mem), w_Trial_advance_B0 Q X x1 M → X x1 M) → X x1 M
set_option maxRecDepth 100000 in
set_option maxHeartbeats 4000000 in
theorem s_Trial_advance_L0 {Q : Mem → Prop} {x1 : Int} {M : Mem} (hC : rC p R s m args meth c cells slots D aC ad 2 cX8_advance RX8 1 21 none) (hQ : ∀ (pc : Nat) (L : List (Nat × RV)) (M : Mem), decode cX8_advance pc = .ok (.return_, 1) → Q M → rG p l e R s m args below meth c cells slots Qs D aC ad 2 pc L [] M) (hw : w_Trial_advance_L0 Q x1 M) : rG p l e R s m args below meth c cells slots Qs D aC ad 2 2 [(0, vR 1), (1, vI x1)] [] M := by
  unfold w_Trial_advance_L0 at hw
  exact hw (fun x1 M => rG p l e R s m args below meth c cells slots Qs D aC ad 2 2 [(0, vR 1), (1, vI x1)] [] M) (fun x1 M hb => s_Trial_advance_B0 hC hQ (fun _ _ h => h) hb)
def w_Trial_advance (M : Mem) (Q : Mem → Prop) : Prop :=
  w_Trial_advance_L0 Q 0 M
set_option maxRecDepth 100000 in
set_option maxHeartbeats 4000000 in
theorem s_Trial_advance {M : Mem} {Q : Mem → Prop} (hC : rC p R s m args meth c cells slots D aC ad 2 cX8_advance RX8 1 21 none) (hQ : ∀ (pc : Nat) (L : List (Nat × RV)) (M : Mem), decode cX8_advance pc = .ok (.return_, 1) → Q M → rG p l e R s m args below meth c cells slots Qs D aC ad 2 pc L [] M) (hw : w_Trial_advance M Q) : rG p l e R s m args below meth c cells slots Qs D aC ad 2 0 [(0, vR 1)] [] M := by
  unfold w_Trial_advance at hw
  refine r_iconst hC dX8_advance_0 ?_
  refine r_istore_n hC dX8_advance_1 rfl (by decide) ?_
  exact r_subk (s_Trial_advance_L0 hC hQ hw) ⟨rfl, rfl, trivial⟩
set_option maxRecDepth 100000 in
set_option maxHeartbeats 4000000 in
theorem d_Trial_advance {l : Launch} {D : va_G} {aC : Nat → ClassId} {ad : Nat → Nat} {M : Mem} {Q : Mem → Prop} (hw : w_Trial_advance M Q) : Does l D aC ad yX8_advance cX8_advance 2 none 1 21 [vR 1] M (pV Q) :=
  Does.of (by decide) (Nat.le_of_ble_eq_true rfl) (fun p e R s m args below meth c hC => r_subk (s_Trial_advance hC (fun pc L M d h => r_vret hC d ⟨rfl, h⟩) hw) ⟨rfl, trivial⟩)
theorem dd_8_advance : yX8_advance.cls ≠ "java/lang/invoke/MethodHandle" ∧ yX8_advance.cls ≠ "java/lang/invoke/VarHandle" ∧ (parseMethodDescriptor yX8_advance.desc).map (fun d => d.parameters.length) = some 0 := by decide +kernel
theorem dd_8_place : yX8_place.cls ≠ "java/lang/invoke/MethodHandle" ∧ yX8_place.cls ≠ "java/lang/invoke/VarHandle" ∧ (parseMethodDescriptor yX8_place.desc).map (fun d => d.parameters.length) = some 0 := by decide +kernel
theorem dd_8_someGone : yX8_someGone.cls ≠ "java/lang/invoke/MethodHandle" ∧ yX8_someGone.cls ≠ "java/lang/invoke/VarHandle" ∧ (parseMethodDescriptor yX8_someGone.desc).map (fun d => d.parameters.length) = some 0 := by decide +kernel
/-- SoupSand$Words.lookByRuns -/
def w_Words_lookByRuns_j0 (Q : Mem → Prop) (X3 : Int → Mem → Prop) (x2 : Int) (x3 : Int) (x4 : Int) (x5 : Int) (s1 : Int) (s2 : Int) (s3 : Int) (M : Mem) : Prop :=
  ((0 ≤ s1 ∧ s1 < 4374) ∧ (0 ≤ bOr s2 s3 ∧ bOr s2 s3 ≤ 65535)) ∧ (∀ M2 : Mem, M2 = mset M 37 s1 (bOr s2 s3) → w_Trial_advance M2 (fun M4 => X3 (x5 + 1) M4))
set_option maxRecDepth 100000 in
set_option maxHeartbeats 4000000 in
theorem s_Words_lookByRuns_j0 {Q : Mem → Prop} {X3 : Int → Mem → Prop} {x2 : Int} {x3 : Int} {x4 : Int} {x5 : Int} {s1 : Int} {s2 : Int} {s3 : Int} {M : Mem} (hC : rC p R s m args meth c cells slots D aC ad 6 cX9_lookByRuns RX9 3 72 none) (hQ : ∀ (pc : Nat) (L : List (Nat × RV)) (M : Mem), decode cX9_lookByRuns pc = .ok (.return_, 1) → Q M → rG p l e R s m args below meth c cells slots Qs D aC ad 6 pc L [] M) (hX3 : ∀ (x5 : Int) (M : Mem), X3 x5 M → rG p l e R s m args below meth c cells slots Qs D aC ad 6 3 [(0, vR 5), (1, vR 1), (2, vI x2), (3, vI x3), (4, vI x4), (5, vI x5)] [] M) (hw : w_Words_lookByRuns_j0 Q X3 x2 x3 x4 x5 s1 s2 s3 M) : rG p l e R s m args below meth c cells slots Qs D aC ad 6 47 [(0, vR 5), (1, vR 1), (2, vI x2), (3, vI x3), (4, vI x4), (5, vI x5)] [vI s3, vI s2, vI s1, vR 37] M := by
  unfold w_Words_lookByRuns_j0 at hw
  refine r_ior hC dX9_lookByRuns_47 ?_
  obtain ⟨o1, hw⟩ := hw
  refine r_iast hC rfl o1.1.1 o1.1.2 (by decide) (by decide) o1.2.1 o1.2.2 dX9_lookByRuns_48 ?_
  replace hw := hw _ rfl
  refine r_aload_n hC dX9_lookByRuns_49 rfl rfl ?_
  refine r_callV hC (d_Trial_advance hw) rfl kC8_advance km9_90 kI8_advance kS8_advance kN8 dd_8_advance ⟨Nat.le_of_ble_eq_true rfl, Nat.le_of_ble_eq_true rfl⟩ rfl (Nat.le_of_ble_eq_true rfl) dX9_lookByRuns_50 (fun r M' hp => ?_)
  obtain ⟨rfl, hw⟩ := hp
  try dsimp only at hw
  refine r_iinc hC dX9_lookByRuns_53 rfl (by decide) ?_
  refine r_goto hC 3 dX9_lookByRuns_56 (by decide) ?_
  exact r_subk (hX3 _ _ hw) ⟨rfl, rfl, rfl, rfl, rfl, rfl, trivial⟩
def w_Words_lookByRuns_B0 (Q : Mem → Prop) (x2 : Int) (x3 : Int) (x4 : Int) (X3 : Int → Mem → Prop) (x5 : Int) (M : Mem) : Prop :=
  (0 ≤ x2 ∧ x2 < 6) ∧ (∀ a2 : Int, a2 = M 36 x2 → 0 ≤ a2 → a2 ≤ 729 → (-2147483648 ≤ x5 ∧ x5 ≤ 2147483647) ∧ ((a2 ≤ x5 → Q M) ∧ (¬ (a2 ≤ x5) → w_Trial_play M (fun M8 => w_Trial_place M8 (fun a9 => (0 ≤ (x2 * 729) + a9 ∧ (x2 * 729) + a9 < 4374) ∧ (∀ a11 : Int, a11 = M8 37 ((x2 * 729) + a9) → 0 ≤ a11 → a11 ≤ 65535 → w_Trial_someGone M8 (fun a13 => (-2147483648 ≤ a13 ∧ a13 ≤ 2147483647) ∧ ((a13 = 0 → w_Words_lookByRuns_j0 Q X3 x2 x3 x4 x5 ((x2 * 729) + a9) a11 x4 M8) ∧ (¬ (a13 = 0) → w_Words_lookByRuns_j0 Q X3 x2 x3 x4 x5 ((x2 * 729) + a9) a11 x3 M8)))))))))
set_option maxRecDepth 100000 in
set_option maxHeartbeats 4000000 in
theorem s_Words_lookByRuns_B0 {Q : Mem → Prop} {x2 : Int} {x3 : Int} {x4 : Int} {X3 : Int → Mem → Prop} {x5 : Int} {M : Mem} (hC : rC p R s m args meth c cells slots D aC ad 6 cX9_lookByRuns RX9 3 72 none) (hQ : ∀ (pc : Nat) (L : List (Nat × RV)) (M : Mem), decode cX9_lookByRuns pc = .ok (.return_, 1) → Q M → rG p l e R s m args below meth c cells slots Qs D aC ad 6 pc L [] M) (hX3 : ∀ (x5 : Int) (M : Mem), X3 x5 M → rG p l e R s m args below meth c cells slots Qs D aC ad 6 3 [(0, vR 5), (1, vR 1), (2, vI x2), (3, vI x3), (4, vI x4), (5, vI x5)] [] M) (hw : w_Words_lookByRuns_B0 Q x2 x3 x4 X3 x5 M) : rG p l e R s m args below meth c cells slots Qs D aC ad 6 3 [(0, vR 5), (1, vR 1), (2, vI x2), (3, vI x3), (4, vI x4), (5, vI x5)] [] M := by
  unfold w_Words_lookByRuns_B0 at hw
  refine r_iload hC dX9_lookByRuns_3 rfl ?_
  refine r_aload_n hC dX9_lookByRuns_5 rfl rfl ?_
  refine r_getR hC 7 rfl (by decide) kf9_27 rfl rfl dX9_lookByRuns_6 ?_
  refine r_iload_n hC dX9_lookByRuns_9 rfl rfl ?_
  obtain ⟨o1, hw⟩ := hw
  refine r_iald hC rfl o1.1 o1.2 (by decide) (by decide) dX9_lookByRuns_10 (fun b3 b3' => ?_)
  replace hw := hw _ rfl b3 b3'
  obtain ⟨o4, hw⟩ := hw
  obtain ⟨hwt, hwf⟩ := hw
  refine r_icmp_ge hC 59 dX9_lookByRuns_11 (by decide) o4.1 o4.2 (by omega) (by omega) (fun c6 => ?_) (fun c6 => ?_)
  · have hw := hwt c6
    exact hQ _ _ _ dX9_lookByRuns_59 hw
  · have hw := hwf c6
    refine r_aload_n hC dX9_lookByRuns_14 rfl rfl ?_
    refine r_callV hC (d_Trial_play hw) rfl kC8_play km9_93 kI8_play kS8_play kN8 dd_8_play ⟨Nat.le_of_ble_eq_true rfl, Nat.le_of_ble_eq_true rfl⟩ rfl (Nat.le_of_ble_eq_true rfl) dX9_lookByRuns_15 (fun r M' hp => ?_)
    obtain ⟨rfl, hw⟩ := hp
    try dsimp only at hw
    refine r_aload_n hC dX9_lookByRuns_18 rfl rfl ?_
    refine r_getR hC 8 rfl (by decide) kf9_30 rfl rfl dX9_lookByRuns_19 ?_
    refine r_iload_n hC dX9_lookByRuns_22 rfl rfl ?_
    refine r_sipush hC dX9_lookByRuns_23 (by decide) ?_
    refine r_imul hC dX9_lookByRuns_26 ?_
    refine r_aload_n hC dX9_lookByRuns_27 rfl rfl ?_
    refine r_callV hC (d_Trial_place hw) rfl kC8_place km9_86 kI8_place kS8_place kN8 dd_8_place ⟨Nat.le_of_ble_eq_true rfl, Nat.le_of_ble_eq_true rfl⟩ rfl (Nat.le_of_ble_eq_true rfl) dX9_lookByRuns_28 (fun r M' hp => ?_)
    obtain ⟨rfl, a9, rfl, hw⟩ := hp
    try dsimp only at hw
    refine r_iadd hC dX9_lookByRuns_31 ?_
    refine r_dup2 hC dX9_lookByRuns_32 rfl rfl ?_
    obtain ⟨o10, hw⟩ := hw
    refine r_iald hC rfl o10.1 o10.2 (by decide) (by decide) dX9_lookByRuns_33 (fun b12 b12' => ?_)
    replace hw := hw _ rfl b12 b12'
    refine r_aload_n hC dX9_lookByRuns_34 rfl rfl ?_
    refine r_callV hC (d_Trial_someGone hw) rfl kC8_someGone km9_96 kI8_someGone kS8_someGone kN8 dd_8_someGone ⟨Nat.le_of_ble_eq_true rfl, Nat.le_of_ble_eq_true rfl⟩ rfl (Nat.le_of_ble_eq_true rfl) dX9_lookByRuns_35 (fun r M' hp => ?_)
    obtain ⟨rfl, a13, rfl, hw⟩ := hp
    try dsimp only at hw
    obtain ⟨o14, hw⟩ := hw
    obtain ⟨hwt, hwf⟩ := hw
    refine r_if_eq hC 45 dX9_lookByRuns_38 (by decide) o14.1 o14.2 (fun c16 => ?_) (fun c16 => ?_)
    · have hw := hwt c16
      refine r_iload hC dX9_lookByRuns_45 rfl ?_
      exact r_subk (s_Words_lookByRuns_j0 hC hQ hX3 hw) ⟨rfl, rfl, rfl, rfl, rfl, rfl, trivial⟩
    · have hw := hwf c16
      refine r_iload_n hC dX9_lookByRuns_41 rfl rfl ?_
      refine r_goto hC 47 dX9_lookByRuns_42 (by decide) ?_
      exact r_subk (s_Words_lookByRuns_j0 hC hQ hX3 hw) ⟨rfl, rfl, rfl, rfl, rfl, rfl, trivial⟩
def w_Words_lookByRuns_L0 (Q : Mem → Prop) (x2 : Int) (x3 : Int) (x4 : Int) (x5 : Int) (M : Mem) : Prop :=
  ∀ X : Int → Mem → Prop, (∀ (x5 : Int) (M : Mem), w_Words_lookByRuns_B0 Q x2 x3 x4 X x5 M → X x5 M) → X x5 M
set_option maxRecDepth 100000 in
set_option maxHeartbeats 4000000 in
theorem s_Words_lookByRuns_L0 {Q : Mem → Prop} {x2 : Int} {x3 : Int} {x4 : Int} {x5 : Int} {M : Mem} (hC : rC p R s m args meth c cells slots D aC ad 6 cX9_lookByRuns RX9 3 72 none) (hQ : ∀ (pc : Nat) (L : List (Nat × RV)) (M : Mem), decode cX9_lookByRuns pc = .ok (.return_, 1) → Q M → rG p l e R s m args below meth c cells slots Qs D aC ad 6 pc L [] M) (hw : w_Words_lookByRuns_L0 Q x2 x3 x4 x5 M) : rG p l e R s m args below meth c cells slots Qs D aC ad 6 3 [(0, vR 5), (1, vR 1), (2, vI x2), (3, vI x3), (4, vI x4), (5, vI x5)] [] M := by
  unfold w_Words_lookByRuns_L0 at hw
  exact hw (fun x5 M => rG p l e R s m args below meth c cells slots Qs D aC ad 6 3 [(0, vR 5), (1, vR 1), (2, vI x2), (3, vI x3), (4, vI x4), (5, vI x5)] [] M) (fun x5 M hb => s_Words_lookByRuns_B0 hC hQ (fun _ _ h => h) hb)
def w_Words_lookByRuns (M : Mem) (x2 : Int) (x3 : Int) (x4 : Int) (Q : Mem → Prop) : Prop :=
  w_Words_lookByRuns_L0 Q x2 x3 x4 0 M
set_option maxRecDepth 100000 in
set_option maxHeartbeats 4000000 in
theorem s_Words_lookByRuns {M : Mem} {x2 : Int} {x3 : Int} {x4 : Int} {Q : Mem → Prop} (hC : rC p R s m args meth c cells slots D aC ad 6 cX9_lookByRuns RX9 3 72 none) (hQ : ∀ (pc : Nat) (L : List (Nat × RV)) (M : Mem), decode cX9_lookByRuns pc = .ok (.return_, 1) → Q M → rG p l e R s m args below meth c cells slots Qs D aC ad 6 pc L [] M) (hw : w_Words_lookByRuns M x2 x3 x4 Q) : rG p l e R s m args below meth c cells slots Qs D aC ad 6 0 [(0, vR 5), (1, vR 1), (2, vI x2), (3, vI x3), (4, vI x4)] [] M := by
  unfold w_Words_lookByRuns at hw
  refine r_iconst hC dX9_lookByRuns_0 ?_
  refine r_istore hC dX9_lookByRuns_1 (by decide) ?_
  exact r_subk (s_Words_lookByRuns_L0 hC hQ hw) ⟨rfl, rfl, rfl, rfl, rfl, rfl, trivial⟩
set_option maxRecDepth 100000 in
set_option maxHeartbeats 4000000 in
theorem d_Words_lookByRuns {l : Launch} {D : va_G} {aC : Nat → ClassId} {ad : Nat → Nat} {M : Mem} {x2 : Int} {x3 : Int} {x4 : Int} {Q : Mem → Prop} (hw : w_Words_lookByRuns M x2 x3 x4 Q) : Does l D aC ad yX9_lookByRuns cX9_lookByRuns 6 none 3 72 [vR 5, vR 1, vI x2, vI x3, vI x4] M (pV Q) :=
  Does.of (by decide) (Nat.le_of_ble_eq_true rfl) (fun p e R s m args below meth c hC => r_subk (s_Words_lookByRuns hC (fun pc L M d h => r_vret hC d ⟨rfl, h⟩) hw) ⟨rfl, rfl, rfl, rfl, rfl, trivial⟩)
/-- SoupSand$Words.lookBySounding -/
def w_Words_lookBySounding_j0 (Q : Mem → Prop) (X8 : Int → Mem → Prop) (x2 : Int) (x3 : Int) (x4 : Int) (M : Mem) : Prop :=
  w_Trial_advance M (fun M2 => X8 (x4 + 1) M2)
set_option maxRecDepth 100000 in
set_option maxHeartbeats 4000000 in
theorem s_Words_lookBySounding_j0 {Q : Mem → Prop} {X8 : Int → Mem → Prop} {x2 : Int} {x3 : Int} {x4 : Int} {M : Mem} (hC : rC p R s m args meth c cells slots D aC ad 5 cX9_lookBySounding RX9 2 42 none) (hQ : ∀ (pc : Nat) (L : List (Nat × RV)) (M : Mem), decode cX9_lookBySounding pc = .ok (.return_, 1) → Q M → rG p l e R s m args below meth c cells slots Qs D aC ad 5 pc L [] M) (hX8 : ∀ (x4 : Int) (M : Mem), X8 x4 M → rG p l e R s m args below meth c cells slots Qs D aC ad 5 8 [(0, vR 5), (1, vR 1), (2, vI x2), (3, vI x3), (4, vI x4)] [] M) (hw : w_Words_lookBySounding_j0 Q X8 x2 x3 x4 M) : rG p l e R s m args below meth c cells slots Qs D aC ad 5 68 [(0, vR 5), (1, vR 1), (2, vI x2), (3, vI x3), (4, vI x4)] [] M := by
  unfold w_Words_lookBySounding_j0 at hw
  refine r_aload_n hC dX9_lookBySounding_68 rfl rfl ?_
  refine r_callV hC (d_Trial_advance hw) rfl kC8_advance km9_90 kI8_advance kS8_advance kN8 dd_8_advance ⟨Nat.le_of_ble_eq_true rfl, Nat.le_of_ble_eq_true rfl⟩ rfl (Nat.le_of_ble_eq_true rfl) dX9_lookBySounding_69 (fun r M' hp => ?_)
  obtain ⟨rfl, hw⟩ := hp
  try dsimp only at hw
  refine r_iinc hC dX9_lookBySounding_72 rfl (by decide) ?_
  refine r_goto hC 8 dX9_lookBySounding_75 (by decide) ?_
  exact r_subk (hX8 _ _ hw) ⟨rfl, rfl, rfl, rfl, rfl, trivial⟩
def w_Words_lookBySounding_B0 (Q : Mem → Prop) (x2 : Int) (x3 : Int) (X8 : Int → Mem → Prop) (x4 : Int) (M : Mem) : Prop :=
  (0 ≤ x2 ∧ x2 < 6) ∧ (∀ a2 : Int, a2 = M 36 x2 → 0 ≤ a2 → a2 ≤ 729 → (-2147483648 ≤ x4 ∧ x4 ≤ 2147483647) ∧ ((a2 ≤ x4 → Q M) ∧ (¬ (a2 ≤ x4) → (0 ≤ x3 ∧ x3 < 16) ∧ (∀ a8 : Int, a8 = M 33 x3 → 0 ≤ a8 → a8 ≤ 5 → w_Trial_valueAt M a8 (fun a10 => (0 ≤ x3 ∧ x3 < 16) ∧ (∀ a12 : Int, a12 = M 34 x3 → -2147483648 ≤ a12 → a12 ≤ 2147483647 → (0 ≤ x3 ∧ x3 < 16) ∧ (∀ a15 : Int, a15 = M 35 x3 → -2147483648 ≤ a15 → a15 ≤ 2147483647 → w_S_beyond M a10 a12 a15 (fun a17 => (-2147483648 ≤ a17 ∧ a17 ≤ 2147483647) ∧ ((a17 = 0 → w_Words_lookBySounding_j0 Q X8 x2 x3 x4 M) ∧ (¬ (a17 = 0) → w_Trial_place M (fun a21 => (0 ≤ (x2 * 729) + a21 ∧ (x2 * 729) + a21 < 4374) ∧ (∀ a23 : Int, a23 = M 37 ((x2 * 729) + a21) → 0 ≤ a23 → a23 ≤ 65535 → ((0 ≤ (x2 * 729) + a21 ∧ (x2 * 729) + a21 < 4374) ∧ (0 ≤ bOr a23 (bShl 1 x3) ∧ bOr a23 (bShl 1 x3) ≤ 65535)) ∧ (∀ M26 : Mem, M26 = mset M 37 ((x2 * 729) + a21) (bOr a23 (bShl 1 x3)) → w_Words_lookBySounding_j0 Q X8 x2 x3 x4 M26)))))))))))))
set_option maxRecDepth 100000 in
set_option maxHeartbeats 4000000 in
theorem s_Words_lookBySounding_B0 {Q : Mem → Prop} {x2 : Int} {x3 : Int} {X8 : Int → Mem → Prop} {x4 : Int} {M : Mem} (hC : rC p R s m args meth c cells slots D aC ad 5 cX9_lookBySounding RX9 2 42 none) (hQ : ∀ (pc : Nat) (L : List (Nat × RV)) (M : Mem), decode cX9_lookBySounding pc = .ok (.return_, 1) → Q M → rG p l e R s m args below meth c cells slots Qs D aC ad 5 pc L [] M) (hX8 : ∀ (x4 : Int) (M : Mem), X8 x4 M → rG p l e R s m args below meth c cells slots Qs D aC ad 5 8 [(0, vR 5), (1, vR 1), (2, vI x2), (3, vI x3), (4, vI x4)] [] M) (hw : w_Words_lookBySounding_B0 Q x2 x3 X8 x4 M) : rG p l e R s m args below meth c cells slots Qs D aC ad 5 8 [(0, vR 5), (1, vR 1), (2, vI x2), (3, vI x3), (4, vI x4)] [] M := by
  unfold w_Words_lookBySounding_B0 at hw
  refine r_iload hC dX9_lookBySounding_8 rfl ?_
  refine r_aload_n hC dX9_lookBySounding_10 rfl rfl ?_
  refine r_getR hC 7 rfl (by decide) kf9_27 rfl rfl dX9_lookBySounding_11 ?_
  refine r_iload_n hC dX9_lookBySounding_14 rfl rfl ?_
  obtain ⟨o1, hw⟩ := hw
  refine r_iald hC rfl o1.1 o1.2 (by decide) (by decide) dX9_lookBySounding_15 (fun b3 b3' => ?_)
  replace hw := hw _ rfl b3 b3'
  obtain ⟨o4, hw⟩ := hw
  obtain ⟨hwt, hwf⟩ := hw
  refine r_icmp_ge hC 78 dX9_lookBySounding_16 (by decide) o4.1 o4.2 (by omega) (by omega) (fun c6 => ?_) (fun c6 => ?_)
  · have hw := hwt c6
    exact hQ _ _ _ dX9_lookBySounding_78 hw
  · have hw := hwf c6
    refine r_aload_n hC dX9_lookBySounding_19 rfl rfl ?_
    refine r_aload_n hC dX9_lookBySounding_20 rfl rfl ?_
    refine r_getR hC 2 rfl (by decide) kf9_18 rfl rfl dX9_lookBySounding_21 ?_
    refine r_iload_n hC dX9_lookBySounding_24 rfl rfl ?_
    obtain ⟨o7, hw⟩ := hw
    refine r_iald hC rfl o7.1 o7.2 (by decide) (by decide) dX9_lookBySounding_25 (fun b9 b9' => ?_)
    replace hw := hw _ rfl b9 b9'
    refine r_callV hC (d_Trial_valueAt hw) rfl kC8_valueAt km9_79 kI8_valueAt kS8_valueAt kN8 dd_8_valueAt ⟨Nat.le_of_ble_eq_true rfl, Nat.le_of_ble_eq_true rfl⟩ rfl (Nat.le_of_ble_eq_true rfl) dX9_lookBySounding_26 (fun r M' hp => ?_)
    obtain ⟨rfl, a10, rfl, hw⟩ := hp
    try dsimp only at hw
    refine r_aload_n hC dX9_lookBySounding_29 rfl rfl ?_
    refine r_getR hC 3 rfl (by decide) kf9_21 rfl rfl dX9_lookBySounding_30 ?_
    refine r_iload_n hC dX9_lookBySounding_33 rfl rfl ?_
    obtain ⟨o11, hw⟩ := hw
    refine r_iald hC rfl o11.1 o11.2 (by decide) (by decide) dX9_lookBySounding_34 (fun b13 b13' => ?_)
    replace hw := hw _ rfl b13 b13'
    refine r_aload_n hC dX9_lookBySounding_35 rfl rfl ?_
    refine r_getR hC 4 rfl (by decide) kf9_24 rfl rfl dX9_lookBySounding_36 ?_
    refine r_iload_n hC dX9_lookBySounding_39 rfl rfl ?_
    obtain ⟨o14, hw⟩ := hw
    refine r_iald hC rfl o14.1 o14.2 (by decide) (by decide) dX9_lookBySounding_40 (fun b16 b16' => ?_)
    replace hw := hw _ rfl b16 b16'
    refine r_callSN hC (d_S_beyond hw) kC11_beyond kn9_82 kT11_beyond kN11 dd_11_beyond ⟨Nat.le_of_ble_eq_true rfl, Nat.le_of_ble_eq_true rfl⟩ rfl (Nat.le_of_ble_eq_true rfl) dX9_lookBySounding_41 (fun r M' hp => ?_)
    obtain ⟨rfl, a17, rfl, hw⟩ := hp
    try dsimp only at hw
    obtain ⟨o18, hw⟩ := hw
    obtain ⟨hwt, hwf⟩ := hw
    refine r_if_eq hC 68 dX9_lookBySounding_44 (by decide) o18.1 o18.2 (fun c20 => ?_) (fun c20 => ?_)
    · have hw := hwt c20
      exact r_subk (s_Words_lookBySounding_j0 hC hQ hX8 hw) ⟨rfl, rfl, rfl, rfl, rfl, trivial⟩
    · have hw := hwf c20
      refine r_aload_n hC dX9_lookBySounding_47 rfl rfl ?_
      refine r_getR hC 8 rfl (by decide) kf9_30 rfl rfl dX9_lookBySounding_48 ?_
      refine r_iload_n hC dX9_lookBySounding_51 rfl rfl ?_
      refine r_sipush hC dX9_lookBySounding_52 (by decide) ?_
      refine r_imul hC dX9_lookBySounding_55 ?_
      refine r_aload_n hC dX9_lookBySounding_56 rfl rfl ?_
      refine r_callV hC (d_Trial_place hw) rfl kC8_place km9_86 kI8_place kS8_place kN8 dd_8_place ⟨Nat.le_of_ble_eq_true rfl, Nat.le_of_ble_eq_true rfl⟩ rfl (Nat.le_of_ble_eq_true rfl) dX9_lookBySounding_57 (fun r M' hp => ?_)
      obtain ⟨rfl, a21, rfl, hw⟩ := hp
      try dsimp only at hw
      refine r_iadd hC dX9_lookBySounding_60 ?_
      refine r_dup2 hC dX9_lookBySounding_61 rfl rfl ?_
      obtain ⟨o22, hw⟩ := hw
      refine r_iald hC rfl o22.1 o22.2 (by decide) (by decide) dX9_lookBySounding_62 (fun b24 b24' => ?_)
      replace hw := hw _ rfl b24 b24'
      refine r_iconst hC dX9_lookBySounding_63 ?_
      refine r_iload_n hC dX9_lookBySounding_64 rfl rfl ?_
      refine r_ishl hC dX9_lookBySounding_65 ?_
      refine r_ior hC dX9_lookBySounding_66 ?_
      obtain ⟨o25, hw⟩ := hw
      refine r_iast hC rfl o25.1.1 o25.1.2 (by decide) (by decide) o25.2.1 o25.2.2 dX9_lookBySounding_67 ?_
      replace hw := hw _ rfl
      exact r_subk (s_Words_lookBySounding_j0 hC hQ hX8 hw) ⟨rfl, rfl, rfl, rfl, rfl, trivial⟩
def w_Words_lookBySounding_L0 (Q : Mem → Prop) (x2 : Int) (x3 : Int) (x4 : Int) (M : Mem) : Prop :=
  ∀ X : Int → Mem → Prop, (∀ (x4 : Int) (M : Mem), w_Words_lookBySounding_B0 Q x2 x3 X x4 M → X x4 M) → X x4 M
set_option maxRecDepth 100000 in
set_option maxHeartbeats 4000000 in
theorem s_Words_lookBySounding_L0 {Q : Mem → Prop} {x2 : Int} {x3 : Int} {x4 : Int} {M : Mem} (hC : rC p R s m args meth c cells slots D aC ad 5 cX9_lookBySounding RX9 2 42 none) (hQ : ∀ (pc : Nat) (L : List (Nat × RV)) (M : Mem), decode cX9_lookBySounding pc = .ok (.return_, 1) → Q M → rG p l e R s m args below meth c cells slots Qs D aC ad 5 pc L [] M) (hw : w_Words_lookBySounding_L0 Q x2 x3 x4 M) : rG p l e R s m args below meth c cells slots Qs D aC ad 5 8 [(0, vR 5), (1, vR 1), (2, vI x2), (3, vI x3), (4, vI x4)] [] M := by
  unfold w_Words_lookBySounding_L0 at hw
  exact hw (fun x4 M => rG p l e R s m args below meth c cells slots Qs D aC ad 5 8 [(0, vR 5), (1, vR 1), (2, vI x2), (3, vI x3), (4, vI x4)] [] M) (fun x4 M hb => s_Words_lookBySounding_B0 hC hQ (fun _ _ h => h) hb)
def w_Words_lookBySounding (M : Mem) (x2 : Int) (x3 : Int) (Q : Mem → Prop) : Prop :=
  w_Trial_begin M x2 (fun M2 => w_Words_lookBySounding_L0 Q x2 x3 0 M2)
set_option maxRecDepth 100000 in
set_option maxHeartbeats 4000000 in
theorem s_Words_lookBySounding {M : Mem} {x2 : Int} {x3 : Int} {Q : Mem → Prop} (hC : rC p R s m args meth c cells slots D aC ad 5 cX9_lookBySounding RX9 2 42 none) (hQ : ∀ (pc : Nat) (L : List (Nat × RV)) (M : Mem), decode cX9_lookBySounding pc = .ok (.return_, 1) → Q M → rG p l e R s m args below meth c cells slots Qs D aC ad 5 pc L [] M) (hw : w_Words_lookBySounding M x2 x3 Q) : rG p l e R s m args below meth c cells slots Qs D aC ad 5 0 [(0, vR 5), (1, vR 1), (2, vI x2), (3, vI x3)] [] M := by
  unfold w_Words_lookBySounding at hw
  refine r_aload_n hC dX9_lookBySounding_0 rfl rfl ?_
  refine r_iload_n hC dX9_lookBySounding_1 rfl rfl ?_
  refine r_callV hC (d_Trial_begin hw) rfl kC8_begin km9_67 kI8_begin kS8_begin kN8 dd_8_begin ⟨Nat.le_of_ble_eq_true rfl, Nat.le_of_ble_eq_true rfl⟩ rfl (Nat.le_of_ble_eq_true rfl) dX9_lookBySounding_2 (fun r M' hp => ?_)
  obtain ⟨rfl, hw⟩ := hp
  try dsimp only at hw
  refine r_iconst hC dX9_lookBySounding_5 ?_
  refine r_istore hC dX9_lookBySounding_6 (by decide) ?_
  exact r_subk (s_Words_lookBySounding_L0 hC hQ hw) ⟨rfl, rfl, rfl, rfl, rfl, trivial⟩
set_option maxRecDepth 100000 in
set_option maxHeartbeats 4000000 in
theorem d_Words_lookBySounding {l : Launch} {D : va_G} {aC : Nat → ClassId} {ad : Nat → Nat} {M : Mem} {x2 : Int} {x3 : Int} {Q : Mem → Prop} (hw : w_Words_lookBySounding M x2 x3 Q) : Does l D aC ad yX9_lookBySounding cX9_lookBySounding 5 none 2 42 [vR 5, vR 1, vI x2, vI x3] M (pV Q) :=
  Does.of (by decide) (Nat.le_of_ble_eq_true rfl) (fun p e R s m args below meth c hC => r_subk (s_Words_lookBySounding hC (fun pc L M d h => r_vret hC d ⟨rfl, h⟩) hw) ⟨rfl, rfl, rfl, rfl, trivial⟩)
theorem dd_0_choicesOf : yX0_choicesOf.cls ≠ "java/lang/invoke/MethodHandle" ∧ yX0_choicesOf.cls ≠ "java/lang/invoke/VarHandle" ∧ (parseMethodDescriptor yX0_choicesOf.desc).map (fun d => d.parameters.length) = some 1 := by decide +kernel
theorem dd_9_lookByRuns : yX9_lookByRuns.cls ≠ "java/lang/invoke/MethodHandle" ∧ yX9_lookByRuns.cls ≠ "java/lang/invoke/VarHandle" ∧ (parseMethodDescriptor yX9_lookByRuns.desc).map (fun d => d.parameters.length) = some 4 := by decide +kernel
theorem dd_9_lookBySounding : yX9_lookBySounding.cls ≠ "java/lang/invoke/MethodHandle" ∧ yX9_lookBySounding.cls ≠ "java/lang/invoke/VarHandle" ∧ (parseMethodDescriptor yX9_lookBySounding.desc).map (fun d => d.parameters.length) = some 3 := by decide +kernel
theorem dd_9_setOf : yX9_setOf.cls ≠ "java/lang/invoke/MethodHandle" ∧ yX9_setOf.cls ≠ "java/lang/invoke/VarHandle" ∧ (parseMethodDescriptor yX9_setOf.desc).map (fun d => d.parameters.length) = some 3 := by decide +kernel
/-- SoupSand$Words.look -/
def w_Words_look_j0 (Q : Mem → Prop) (X103 : Int → Mem → Prop) (x2 : Int) (x3 : Int) (x4 : Int) (x5 : Int) (M : Mem) : Prop :=
  w_Trial_begin M x2 (fun M2 => w_Trial_under M2 x3 0 0 (fun M4 => w_Words_lookByRuns M4 x2 x4 x5 (fun M6 => X103 (x3 + 1) M6)))
set_option maxRecDepth 100000 in
set_option maxHeartbeats 4000000 in
theorem s_Words_look_j0 {Q : Mem → Prop} {X103 : Int → Mem → Prop} {x2 : Int} {x3 : Int} {x4 : Int} {x5 : Int} {M : Mem} (hC : rC p R s m args meth c cells slots D aC ad 6 cX9_look RX9 4 97 none) (hQ : ∀ (pc : Nat) (L : List (Nat × RV)) (M : Mem), decode cX9_look pc = .ok (.return_, 1) → Q M → rG p l e R s m args below meth c cells slots Qs D aC ad 6 pc L [] M) (hX103 : ∀ (x3 : Int) (M : Mem), X103 x3 M → rG p l e R s m args below meth c cells slots Qs D aC ad 6 103 [(0, vR 5), (1, vR 1), (2, vI x2), (3, vI x3)] [] M) (hw : w_Words_look_j0 Q X103 x2 x3 x4 x5 M) : rG p l e R s m args below meth c cells slots Qs D aC ad 6 142 [(0, vR 5), (1, vR 1), (2, vI x2), (3, vI x3), (4, vI x4), (5, vI x5)] [] M := by
  unfold w_Words_look_j0 at hw
  refine r_aload_n hC dX9_look_142 rfl rfl ?_
  refine r_iload_n hC dX9_look_143 rfl rfl ?_
  refine r_callV hC (d_Trial_begin hw) rfl kC8_begin km9_67 kI8_begin kS8_begin kN8 dd_8_begin ⟨Nat.le_of_ble_eq_true rfl, Nat.le_of_ble_eq_true rfl⟩ rfl (Nat.le_of_ble_eq_true rfl) dX9_look_144 (fun r M' hp => ?_)
  obtain ⟨rfl, hw⟩ := hp
  try dsimp only at hw
  refine r_aload_n hC dX9_look_147 rfl rfl ?_
  refine r_iload_n hC dX9_look_148 rfl rfl ?_
  refine r_iconst hC dX9_look_149 ?_
  refine r_iconst hC dX9_look_150 ?_
  refine r_callV hC (d_Trial_under hw) rfl kC8_under km9_71 kI8_under kS8_under kN8 dd_8_under ⟨Nat.le_of_ble_eq_true rfl, Nat.le_of_ble_eq_true rfl⟩ rfl (Nat.le_of_ble_eq_true rfl) dX9_look_151 (fun r M' hp => ?_)
  obtain ⟨rfl, hw⟩ := hp
  try dsimp only at hw
  refine r_aload_n hC dX9_look_154 rfl rfl ?_
  refine r_aload_n hC dX9_look_155 rfl rfl ?_
  refine r_iload_n hC dX9_look_156 rfl rfl ?_
  refine r_iload hC dX9_look_157 rfl ?_
  refine r_iload hC dX9_look_159 rfl ?_
  refine r_callV hC (d_Words_lookByRuns hw) rfl kC9_lookByRuns km9_75 kI9_lookByRuns kS9_lookByRuns kN9 dd_9_lookByRuns ⟨Nat.le_of_ble_eq_true rfl, Nat.le_of_ble_eq_true rfl⟩ rfl (Nat.le_of_ble_eq_true rfl) dX9_look_161 (fun r M' hp => ?_)
  obtain ⟨rfl, hw⟩ := hp
  try dsimp only at hw
  refine r_iinc hC dX9_look_164 rfl (by decide) ?_
  refine r_goto hC 103 dX9_look_167 (by decide) ?_
  exact r_subk (hX103 _ _ hw) ⟨rfl, rfl, rfl, rfl, trivial⟩
def w_Words_look_B2 (Q : Mem → Prop) (x2 : Int) (X103 : Int → Mem → Prop) (x3 : Int) (M : Mem) : Prop :=
  ∀ a1 : Int, a1 = M 3 3 → 0 ≤ a1 → a1 ≤ 6 → (-2147483648 ≤ x3 ∧ x3 ≤ 2147483647) ∧ ((a1 ≤ x3 → ∀ a6 : Int, a6 = M 5 9 → 0 ≤ a6 → a6 ≤ 63 → (0 ≤ bOr a6 (bShl 1 x2) ∧ bOr a6 (bShl 1 x2) ≤ 63) ∧ (∀ M9 : Mem, M9 = mset M 5 9 (bOr a6 (bShl 1 x2)) → Q M9)) ∧ (¬ (a1 ≤ x3) → w_Words_setOf M x2 0 x3 (fun a10 => w_Words_setOf M x2 1 x3 (fun a11 => (-2147483648 ≤ a10 ∧ a10 ≤ 2147483647) ∧ ((¬ (a10 = 0) → w_Words_look_j0 Q X103 x2 x3 a10 a11 M) ∧ (a10 = 0 → (-2147483648 ≤ a11 ∧ a11 ≤ 2147483647) ∧ ((a11 = 0 → X103 (x3 + 1) M) ∧ (¬ (a11 = 0) → w_Words_look_j0 Q X103 x2 x3 a10 a11 M))))))))
set_option maxRecDepth 100000 in
set_option maxHeartbeats 4000000 in
theorem s_Words_look_B2 {Q : Mem → Prop} {x2 : Int} {X103 : Int → Mem → Prop} {x3 : Int} {M : Mem} (hC : rC p R s m args meth c cells slots D aC ad 6 cX9_look RX9 4 97 none) (hQ : ∀ (pc : Nat) (L : List (Nat × RV)) (M : Mem), decode cX9_look pc = .ok (.return_, 1) → Q M → rG p l e R s m args below meth c cells slots Qs D aC ad 6 pc L [] M) (hX103 : ∀ (x3 : Int) (M : Mem), X103 x3 M → rG p l e R s m args below meth c cells slots Qs D aC ad 6 103 [(0, vR 5), (1, vR 1), (2, vI x2), (3, vI x3)] [] M) (hw : w_Words_look_B2 Q x2 X103 x3 M) : rG p l e R s m args below meth c cells slots Qs D aC ad 6 103 [(0, vR 5), (1, vR 1), (2, vI x2), (3, vI x3)] [] M := by
  unfold w_Words_look_B2 at hw
  refine r_iload_n hC dX9_look_103 rfl rfl ?_
  refine r_aload_n hC dX9_look_104 rfl rfl ?_
  refine r_getR hC 1 rfl (by decide) kf9_56 rfl rfl dX9_look_105 ?_
  refine r_getI hC 3 rfl (by decide) kf9_60 rfl rfl dX9_look_108 (fun b2 b2' => ?_)
  replace hw := hw _ rfl b2 b2'
  obtain ⟨o3, hw⟩ := hw
  obtain ⟨hwt, hwf⟩ := hw
  refine r_icmp_ge hC 170 dX9_look_111 (by decide) o3.1 o3.2 (by omega) (by omega) (fun c5 => ?_) (fun c5 => ?_)
  · have hw := hwt c5
    refine r_aload_n hC dX9_look_170 rfl rfl ?_
    refine r_dup hC dX9_look_171 rfl ?_
    refine r_getI hC 9 rfl (by decide) kf9_37 rfl rfl dX9_look_172 (fun b7 b7' => ?_)
    replace hw := hw _ rfl b7 b7'
    refine r_iconst hC dX9_look_175 ?_
    refine r_iload_n hC dX9_look_176 rfl rfl ?_
    refine r_ishl hC dX9_look_177 ?_
    refine r_ior hC dX9_look_178 ?_
    obtain ⟨o8, hw⟩ := hw
    refine r_putI hC 9 rfl (by decide) kf9_37 rfl rfl o8.1 o8.2 dX9_look_179 ?_
    replace hw := hw _ rfl
    exact hQ _ _ _ dX9_look_182 hw
  · have hw := hwf c5
    refine r_aload_n hC dX9_look_114 rfl rfl ?_
    refine r_iload_n hC dX9_look_115 rfl rfl ?_
    refine r_iconst hC dX9_look_116 ?_
    refine r_iload_n hC dX9_look_117 rfl rfl ?_
    refine r_callV hC (d_Words_setOf hw) rfl kC9_setOf km9_63 kI9_setOf kS9_setOf kN9 dd_9_setOf ⟨Nat.le_of_ble_eq_true rfl, Nat.le_of_ble_eq_true rfl⟩ rfl (Nat.le_of_ble_eq_true rfl) dX9_look_118 (fun r M' hp => ?_)
    obtain ⟨rfl, a10, rfl, hw⟩ := hp
    try dsimp only at hw
    refine r_istore hC dX9_look_121 (by decide) ?_
    refine r_aload_n hC dX9_look_123 rfl rfl ?_
    refine r_iload_n hC dX9_look_124 rfl rfl ?_
    refine r_iconst hC dX9_look_125 ?_
    refine r_iload_n hC dX9_look_126 rfl rfl ?_
    refine r_callV hC (d_Words_setOf hw) rfl kC9_setOf km9_63 kI9_setOf kS9_setOf kN9 dd_9_setOf ⟨Nat.le_of_ble_eq_true rfl, Nat.le_of_ble_eq_true rfl⟩ rfl (Nat.le_of_ble_eq_true rfl) dX9_look_127 (fun r M' hp => ?_)
    obtain ⟨rfl, a11, rfl, hw⟩ := hp
    try dsimp only at hw
    refine r_istore hC dX9_look_130 (by decide) ?_
    refine r_iload hC dX9_look_132 rfl ?_
    obtain ⟨o12, hw⟩ := hw
    obtain ⟨hwt, hwf⟩ := hw
    refine r_if_ne hC 142 dX9_look_134 (by decide) o12.1 o12.2 (fun c14 => ?_) (fun c14 => ?_)
    · have hw := hwt c14
      exact r_subk (s_Words_look_j0 hC hQ hX103 hw) ⟨rfl, rfl, rfl, rfl, rfl, rfl, trivial⟩
    · have hw := hwf c14
      refine r_iload hC dX9_look_137 rfl ?_
      obtain ⟨o15, hw⟩ := hw
      obtain ⟨hwt, hwf⟩ := hw
      refine r_if_eq hC 164 dX9_look_139 (by decide) o15.1 o15.2 (fun c17 => ?_) (fun c17 => ?_)
      · have hw := hwt c17
        refine r_iinc hC dX9_look_164 rfl (by decide) ?_
        refine r_goto hC 103 dX9_look_167 (by decide) ?_
        exact r_subk (hX103 _ _ hw) ⟨rfl, rfl, rfl, rfl, trivial⟩
      · have hw := hwf c17
        exact r_subk (s_Words_look_j0 hC hQ hX103 hw) ⟨rfl, rfl, rfl, rfl, rfl, rfl, trivial⟩
def w_Words_look_L2 (Q : Mem → Prop) (x2 : Int) (x3 : Int) (M : Mem) : Prop :=
  ∀ X : Int → Mem → Prop, (∀ (x3 : Int) (M : Mem), w_Words_look_B2 Q x2 X x3 M → X x3 M) → X x3 M
set_option maxRecDepth 100000 in
set_option maxHeartbeats 4000000 in
theorem s_Words_look_L2 {Q : Mem → Prop} {x2 : Int} {x3 : Int} {M : Mem} (hC : rC p R s m args meth c cells slots D aC ad 6 cX9_look RX9 4 97 none) (hQ : ∀ (pc : Nat) (L : List (Nat × RV)) (M : Mem), decode cX9_look pc = .ok (.return_, 1) → Q M → rG p l e R s m args below meth c cells slots Qs D aC ad 6 pc L [] M) (hw : w_Words_look_L2 Q x2 x3 M) : rG p l e R s m args below meth c cells slots Qs D aC ad 6 103 [(0, vR 5), (1, vR 1), (2, vI x2), (3, vI x3)] [] M := by
  unfold w_Words_look_L2 at hw
  exact hw (fun x3 M => rG p l e R s m args below meth c cells slots Qs D aC ad 6 103 [(0, vR 5), (1, vR 1), (2, vI x2), (3, vI x3)] [] M) (fun x3 M hb => s_Words_look_B2 hC hQ (fun _ _ h => h) hb)
def w_Words_look_B1 (Q : Mem → Prop) (x2 : Int) (X60 : Int → Mem → Prop) (x3 : Int) (M : Mem) : Prop :=
  ∀ a1 : Int, a1 = M 5 5 → 0 ≤ a1 → a1 ≤ 16 → (-2147483648 ≤ x3 ∧ x3 ≤ 2147483647) ∧ ((a1 ≤ x3 → w_Words_look_L2 Q x2 0 M) ∧ (¬ (a1 ≤ x3) → (0 ≤ x3 ∧ x3 < 16) ∧ (∀ a7 : Int, a7 = M 31 x3 → 0 ≤ a7 → a7 ≤ 5 → (-2147483648 ≤ x2 ∧ x2 ≤ 2147483647) ∧ ((¬ (a7 = x2) → X60 (x3 + 1) M) ∧ (a7 = x2 → (0 ≤ x3 ∧ x3 < 16) ∧ (∀ a13 : Int, a13 = M 32 x3 → 0 ≤ a13 → a13 ≤ 2 → (¬ (a13 = 2) → X60 (x3 + 1) M) ∧ (a13 = 2 → w_Words_lookBySounding M x2 x3 (fun M19 => X60 (x3 + 1) M19))))))))
set_option maxRecDepth 100000 in
set_option maxHeartbeats 4000000 in
theorem s_Words_look_B1 {Q : Mem → Prop} {x2 : Int} {X60 : Int → Mem → Prop} {x3 : Int} {M : Mem} (hC : rC p R s m args meth c cells slots D aC ad 6 cX9_look RX9 4 97 none) (hQ : ∀ (pc : Nat) (L : List (Nat × RV)) (M : Mem), decode cX9_look pc = .ok (.return_, 1) → Q M → rG p l e R s m args below meth c cells slots Qs D aC ad 6 pc L [] M) (hX60 : ∀ (x3 : Int) (M : Mem), X60 x3 M → rG p l e R s m args below meth c cells slots Qs D aC ad 6 60 [(0, vR 5), (1, vR 1), (2, vI x2), (3, vI x3)] [] M) (hw : w_Words_look_B1 Q x2 X60 x3 M) : rG p l e R s m args below meth c cells slots Qs D aC ad 6 60 [(0, vR 5), (1, vR 1), (2, vI x2), (3, vI x3)] [] M := by
  unfold w_Words_look_B1 at hw
  refine r_iload_n hC dX9_look_60 rfl rfl ?_
  refine r_aload_n hC dX9_look_61 rfl rfl ?_
  refine r_getI hC 5 rfl (by decide) kf9_33 rfl rfl dX9_look_62 (fun b2 b2' => ?_)
  replace hw := hw _ rfl b2 b2'
  obtain ⟨o3, hw⟩ := hw
  obtain ⟨hwt, hwf⟩ := hw
  refine r_icmp_ge hC 101 dX9_look_65 (by decide) o3.1 o3.2 (by omega) (by omega) (fun c5 => ?_) (fun c5 => ?_)
  · have hw := hwt c5
    refine r_iconst hC dX9_look_101 ?_
    refine r_istore_n hC dX9_look_102 rfl (by decide) ?_
    exact r_subk (s_Words_look_L2 hC hQ hw) ⟨rfl, rfl, rfl, rfl, trivial⟩
  · have hw := hwf c5
    refine r_aload_n hC dX9_look_68 rfl rfl ?_
    refine r_getR hC 0 rfl (by decide) kf9_9 rfl rfl dX9_look_69 ?_
    refine r_iload_n hC dX9_look_72 rfl rfl ?_
    obtain ⟨o6, hw⟩ := hw
    refine r_iald hC rfl o6.1 o6.2 (by decide) (by decide) dX9_look_73 (fun b8 b8' => ?_)
    replace hw := hw _ rfl b8 b8'
    refine r_iload_n hC dX9_look_74 rfl rfl ?_
    obtain ⟨o10, hw⟩ := hw
    obtain ⟨hwt, hwf⟩ := hw
    refine r_icmp_ne hC 95 dX9_look_75 (by decide) (by omega) (by omega) o10.1 o10.2 (fun c11 => ?_) (fun c11 => ?_)
    · have hw := hwt c11
      refine r_iinc hC dX9_look_95 rfl (by decide) ?_
      refine r_goto hC 60 dX9_look_98 (by decide) ?_
      exact r_subk (hX60 _ _ hw) ⟨rfl, rfl, rfl, rfl, trivial⟩
    · have hw := hwf c11
      refine r_aload_n hC dX9_look_78 rfl rfl ?_
      refine r_getR hC 1 rfl (by decide) kf9_15 rfl rfl dX9_look_79 ?_
      refine r_iload_n hC dX9_look_82 rfl rfl ?_
      obtain ⟨o12, hw⟩ := hw
      refine r_iald hC rfl o12.1 o12.2 (by decide) (by decide) dX9_look_83 (fun b14 b14' => ?_)
      replace hw := hw _ rfl b14 b14'
      refine r_iconst hC dX9_look_84 ?_
      obtain ⟨hwt, hwf⟩ := hw
      refine r_icmp_ne hC 95 dX9_look_85 (by decide) (by omega) (by omega) (by decide) (by decide) (fun c17 => ?_) (fun c17 => ?_)
      · have hw := hwt c17
        refine r_iinc hC dX9_look_95 rfl (by decide) ?_
        refine r_goto hC 60 dX9_look_98 (by decide) ?_
        exact r_subk (hX60 _ _ hw) ⟨rfl, rfl, rfl, rfl, trivial⟩
      · have hw := hwf c17
        refine r_aload_n hC dX9_look_88 rfl rfl ?_
        refine r_aload_n hC dX9_look_89 rfl rfl ?_
        refine r_iload_n hC dX9_look_90 rfl rfl ?_
        refine r_iload_n hC dX9_look_91 rfl rfl ?_
        refine r_callV hC (d_Words_lookBySounding hw) rfl kC9_lookBySounding km9_52 kI9_lookBySounding kS9_lookBySounding kN9 dd_9_lookBySounding ⟨Nat.le_of_ble_eq_true rfl, Nat.le_of_ble_eq_true rfl⟩ rfl (Nat.le_of_ble_eq_true rfl) dX9_look_92 (fun r M' hp => ?_)
        obtain ⟨rfl, hw⟩ := hp
        try dsimp only at hw
        refine r_iinc hC dX9_look_95 rfl (by decide) ?_
        refine r_goto hC 60 dX9_look_98 (by decide) ?_
        exact r_subk (hX60 _ _ hw) ⟨rfl, rfl, rfl, rfl, trivial⟩
def w_Words_look_L1 (Q : Mem → Prop) (x2 : Int) (x3 : Int) (M : Mem) : Prop :=
  ∀ X : Int → Mem → Prop, (∀ (x3 : Int) (M : Mem), w_Words_look_B1 Q x2 X x3 M → X x3 M) → X x3 M
set_option maxRecDepth 100000 in
set_option maxHeartbeats 4000000 in
theorem s_Words_look_L1 {Q : Mem → Prop} {x2 : Int} {x3 : Int} {M : Mem} (hC : rC p R s m args meth c cells slots D aC ad 6 cX9_look RX9 4 97 none) (hQ : ∀ (pc : Nat) (L : List (Nat × RV)) (M : Mem), decode cX9_look pc = .ok (.return_, 1) → Q M → rG p l e R s m args below meth c cells slots Qs D aC ad 6 pc L [] M) (hw : w_Words_look_L1 Q x2 x3 M) : rG p l e R s m args below meth c cells slots Qs D aC ad 6 60 [(0, vR 5), (1, vR 1), (2, vI x2), (3, vI x3)] [] M := by
  unfold w_Words_look_L1 at hw
  exact hw (fun x3 M => rG p l e R s m args below meth c cells slots Qs D aC ad 6 60 [(0, vR 5), (1, vR 1), (2, vI x2), (3, vI x3)] [] M) (fun x3 M hb => s_Words_look_B1 hC hQ (fun _ _ h => h) hb)
def w_Words_look_B0 (Q : Mem → Prop) (x2 : Int) (X29 : Int → Mem → Prop) (x3 : Int) (M : Mem) : Prop :=
  (0 ≤ x2 ∧ x2 < 6) ∧ (∀ a2 : Int, a2 = M 36 x2 → 0 ≤ a2 → a2 ≤ 729 → (-2147483648 ≤ x3 ∧ x3 ≤ 2147483647) ∧ ((a2 ≤ x3 → w_Words_look_L1 Q x2 0 M) ∧ (¬ (a2 ≤ x3) → (0 ≤ (x2 * 729) + x3 ∧ (x2 * 729) + x3 < 4374) ∧ (∀ M8 : Mem, M8 = mset M 37 ((x2 * 729) + x3) 0 → X29 (x3 + 1) M8))))
set_option maxRecDepth 100000 in
set_option maxHeartbeats 4000000 in
theorem s_Words_look_B0 {Q : Mem → Prop} {x2 : Int} {X29 : Int → Mem → Prop} {x3 : Int} {M : Mem} (hC : rC p R s m args meth c cells slots D aC ad 6 cX9_look RX9 4 97 none) (hQ : ∀ (pc : Nat) (L : List (Nat × RV)) (M : Mem), decode cX9_look pc = .ok (.return_, 1) → Q M → rG p l e R s m args below meth c cells slots Qs D aC ad 6 pc L [] M) (hX29 : ∀ (x3 : Int) (M : Mem), X29 x3 M → rG p l e R s m args below meth c cells slots Qs D aC ad 6 29 [(0, vR 5), (1, vR 1), (2, vI x2), (3, vI x3)] [] M) (hw : w_Words_look_B0 Q x2 X29 x3 M) : rG p l e R s m args below meth c cells slots Qs D aC ad 6 29 [(0, vR 5), (1, vR 1), (2, vI x2), (3, vI x3)] [] M := by
  unfold w_Words_look_B0 at hw
  refine r_iload_n hC dX9_look_29 rfl rfl ?_
  refine r_aload_n hC dX9_look_30 rfl rfl ?_
  refine r_getR hC 7 rfl (by decide) kf9_27 rfl rfl dX9_look_31 ?_
  refine r_iload_n hC dX9_look_34 rfl rfl ?_
  obtain ⟨o1, hw⟩ := hw
  refine r_iald hC rfl o1.1 o1.2 (by decide) (by decide) dX9_look_35 (fun b3 b3' => ?_)
  replace hw := hw _ rfl b3 b3'
  obtain ⟨o4, hw⟩ := hw
  obtain ⟨hwt, hwf⟩ := hw
  refine r_icmp_ge hC 58 dX9_look_36 (by decide) o4.1 o4.2 (by omega) (by omega) (fun c6 => ?_) (fun c6 => ?_)
  · have hw := hwt c6
    refine r_iconst hC dX9_look_58 ?_
    refine r_istore_n hC dX9_look_59 rfl (by decide) ?_
    exact r_subk (s_Words_look_L1 hC hQ hw) ⟨rfl, rfl, rfl, rfl, trivial⟩
  · have hw := hwf c6
    refine r_aload_n hC dX9_look_39 rfl rfl ?_
    refine r_getR hC 8 rfl (by decide) kf9_30 rfl rfl dX9_look_40 ?_
    refine r_iload_n hC dX9_look_43 rfl rfl ?_
    refine r_sipush hC dX9_look_44 (by decide) ?_
    refine r_imul hC dX9_look_47 ?_
    refine r_iload_n hC dX9_look_48 rfl rfl ?_
    refine r_iadd hC dX9_look_49 ?_
    refine r_iconst hC dX9_look_50 ?_
    obtain ⟨o7, hw⟩ := hw
    refine r_iast hC rfl o7.1 o7.2 (by decide) (by decide) (by decide) (by decide) dX9_look_51 ?_
    replace hw := hw _ rfl
    refine r_iinc hC dX9_look_52 rfl (by decide) ?_
    refine r_goto hC 29 dX9_look_55 (by decide) ?_
    exact r_subk (hX29 _ _ hw) ⟨rfl, rfl, rfl, rfl, trivial⟩
def w_Words_look_L0 (Q : Mem → Prop) (x2 : Int) (x3 : Int) (M : Mem) : Prop :=
  ∀ X : Int → Mem → Prop, (∀ (x3 : Int) (M : Mem), w_Words_look_B0 Q x2 X x3 M → X x3 M) → X x3 M
set_option maxRecDepth 100000 in
set_option maxHeartbeats 4000000 in
theorem s_Words_look_L0 {Q : Mem → Prop} {x2 : Int} {x3 : Int} {M : Mem} (hC : rC p R s m args meth c cells slots D aC ad 6 cX9_look RX9 4 97 none) (hQ : ∀ (pc : Nat) (L : List (Nat × RV)) (M : Mem), decode cX9_look pc = .ok (.return_, 1) → Q M → rG p l e R s m args below meth c cells slots Qs D aC ad 6 pc L [] M) (hw : w_Words_look_L0 Q x2 x3 M) : rG p l e R s m args below meth c cells slots Qs D aC ad 6 29 [(0, vR 5), (1, vR 1), (2, vI x2), (3, vI x3)] [] M := by
  unfold w_Words_look_L0 at hw
  exact hw (fun x3 M => rG p l e R s m args below meth c cells slots Qs D aC ad 6 29 [(0, vR 5), (1, vR 1), (2, vI x2), (3, vI x3)] [] M) (fun x3 M hb => s_Words_look_B0 hC hQ (fun _ _ h => h) hb)
def w_Words_look (M : Mem) (x2 : Int) (Q : Mem → Prop) : Prop :=
  ∀ a1 : Int, a1 = M 5 9 → 0 ≤ a1 → a1 ≤ 63 → (-2147483648 ≤ bAnd (bShr a1 x2) 1 ∧ bAnd (bShr a1 x2) 1 ≤ 2147483647) ∧ ((¬ (bAnd (bShr a1 x2) 1 = 1) → w_Ground_choicesOf M x2 (fun a6 => ((0 ≤ x2 ∧ x2 < 6) ∧ (0 ≤ a6 ∧ a6 ≤ 729)) ∧ (∀ M8 : Mem, M8 = mset M 36 x2 a6 → w_Words_look_L0 Q x2 0 M8))) ∧ (bAnd (bShr a1 x2) 1 = 1 → Q M))
set_option maxRecDepth 100000 in
set_option maxHeartbeats 4000000 in
theorem s_Words_look {M : Mem} {x2 : Int} {Q : Mem → Prop} (hC : rC p R s m args meth c cells slots D aC ad 6 cX9_look RX9 4 97 none) (hQ : ∀ (pc : Nat) (L : List (Nat × RV)) (M : Mem), decode cX9_look pc = .ok (.return_, 1) → Q M → rG p l e R s m args below meth c cells slots Qs D aC ad 6 pc L [] M) (hw : w_Words_look M x2 Q) : rG p l e R s m args below meth c cells slots Qs D aC ad 6 0 [(0, vR 5), (1, vR 1), (2, vI x2)] [] M := by
  unfold w_Words_look at hw
  refine r_aload_n hC dX9_look_0 rfl rfl ?_
  refine r_getI hC 9 rfl (by decide) kf9_37 rfl rfl dX9_look_1 (fun b2 b2' => ?_)
  replace hw := hw _ rfl b2 b2'
  refine r_iload_n hC dX9_look_4 rfl rfl ?_
  refine r_ishr hC dX9_look_5 ?_
  refine r_iconst hC dX9_look_6 ?_
  refine r_iand hC dX9_look_7 ?_
  refine r_iconst hC dX9_look_8 ?_
  obtain ⟨o3, hw⟩ := hw
  obtain ⟨hwt, hwf⟩ := hw
  refine r_icmp_ne hC 13 dX9_look_9 (by decide) o3.1 o3.2 (by decide) (by decide) (fun c5 => ?_) (fun c5 => ?_)
  · have hw := hwt c5
    refine r_aload_n hC dX9_look_13 rfl rfl ?_
    refine r_getR hC 7 rfl (by decide) kf9_27 rfl rfl dX9_look_14 ?_
    refine r_iload_n hC dX9_look_17 rfl rfl ?_
    refine r_aload_n hC dX9_look_18 rfl rfl ?_
    refine r_getR hC 0 rfl (by decide) kf9_40 rfl rfl dX9_look_19 ?_
    refine r_iload_n hC dX9_look_22 rfl rfl ?_
    refine r_callV hC (d_Ground_choicesOf hw) rfl kC0_choicesOf km9_46 kI0_choicesOf kS0_choicesOf kN0 dd_0_choicesOf ⟨Nat.le_of_ble_eq_true rfl, Nat.le_of_ble_eq_true rfl⟩ rfl (Nat.le_of_ble_eq_true rfl) dX9_look_23 (fun r M' hp => ?_)
    obtain ⟨rfl, a6, rfl, hw⟩ := hp
    try dsimp only at hw
    obtain ⟨o7, hw⟩ := hw
    refine r_iast hC rfl o7.1.1 o7.1.2 (by decide) (by decide) o7.2.1 o7.2.2 dX9_look_26 ?_
    replace hw := hw _ rfl
    refine r_iconst hC dX9_look_27 ?_
    refine r_istore_n hC dX9_look_28 rfl (by decide) ?_
    exact r_subk (s_Words_look_L0 hC hQ hw) ⟨rfl, rfl, rfl, rfl, trivial⟩
  · have hw := hwf c5
    exact hQ _ _ _ dX9_look_12 hw
set_option maxRecDepth 100000 in
set_option maxHeartbeats 4000000 in
theorem d_Words_look {l : Launch} {D : va_G} {aC : Nat → ClassId} {ad : Nat → Nat} {M : Mem} {x2 : Int} {Q : Mem → Prop} (hw : w_Words_look M x2 Q) : Does l D aC ad yX9_look cX9_look 6 none 4 97 [vR 5, vR 1, vI x2] M (pV Q) :=
  Does.of (by decide) (Nat.le_of_ble_eq_true rfl) (fun p e R s m args below meth c hC => r_subk (s_Words_look hC (fun pc L M d h => r_vret hC d ⟨rfl, h⟩) hw) ⟨rfl, rfl, rfl, trivial⟩)
end
