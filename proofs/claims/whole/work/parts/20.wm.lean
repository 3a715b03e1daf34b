section
variable {p : Program} {l : Launch} {e : Env} {R : Room} {s : State} {m : MethodId} {args : Array Value} {below : List Frame} {meth : Method} {c : Code} {cells slots : Nat} {Qs : State → Prop} {D : va_G} {aC : Nat → ClassId} {ad : Nat → Nat}
/-- SoupSandModel.work -/
def w_m_work_j0 (Q : Int → Mem → Prop) (x1 : Int) (x2 : Int) (x3 : Int) (x4 : Int) (s0 : Int) (s1 : Int) (s2 : Int) (M : Mem) : Prop :=
  w_m_in M s0 s1 s2 (fun a1 => (-2147483648 ≤ a1 ∧ a1 ≤ 2147483647) ∧ ((a1 = 0 → Q (-1002) M) ∧ (¬ (a1 = 0) → (-2147483648 ≤ x4 ∧ x4 ≤ 2147483647) ∧ (w_m_in M x4 1 999 (fun a6 => (-2147483648 ≤ a6 ∧ a6 ≤ 2147483647) ∧ ((¬ (a6 = 0) → ∀ a10 : Int, a10 = M 12 50 → 0 ≤ a10 → a10 ≤ 6 → (¬ (a10 = 6) → ∀ a15 : Int, a15 = M 12 50 → 0 ≤ a15 → a15 ≤ 6 → ((0 ≤ a15 ∧ a15 < 6) ∧ (0 ≤ x1 ∧ x1 ≤ 5)) ∧ (∀ M18 : Mem, M18 = mset M 90 a15 x1 → ∀ a19 : Int, a19 = M18 12 50 → 0 ≤ a19 → a19 ≤ 6 → ((0 ≤ a19 ∧ a19 < 6) ∧ (0 ≤ x2 ∧ x2 ≤ 1)) ∧ (∀ M22 : Mem, M22 = mset M18 91 a19 x2 → ∀ a23 : Int, a23 = M22 12 50 → 0 ≤ a23 → a23 ≤ 6 → ((0 ≤ a23 ∧ a23 < 6) ∧ (0 ≤ x3 ∧ x3 ≤ 500)) ∧ (∀ M26 : Mem, M26 = mset M22 92 a23 x3 → ∀ a27 : Int, a27 = M26 12 50 → 0 ≤ a27 → a27 ≤ 6 → ((0 ≤ a27 ∧ a27 < 6) ∧ (0 ≤ x4 ∧ x4 ≤ 999)) ∧ (∀ M30 : Mem, M30 = mset M26 93 a27 x4 → ∀ a31 : Int, a31 = M30 12 50 → 0 ≤ a31 → a31 ≤ 6 → (0 ≤ a31 + 1 ∧ a31 + 1 ≤ 6) ∧ (∀ M34 : Mem, M34 = mset M30 12 50 (a31 + 1) → ∀ a35 : Int, a35 = M34 12 50 → 0 ≤ a35 → a35 ≤ 6 → Q (a35 - 1) M34)))))) ∧ (a10 = 6 → Q (-1004) M)) ∧ (a6 = 0 → Q (-1002) M)))))))
set_option maxRecDepth 100000 in
set_option maxHeartbeats 4000000 in
theorem s_m_work_j0 {Q : Int → Mem → Prop} {x1 : Int} {x2 : Int} {x3 : Int} {x4 : Int} {s0 : Int} {s1 : Int} {s2 : Int} {M : Mem} (hC : rC p R s m args meth c cells slots D aC ad 5 cX12_work RX12 2 45 (some .int)) (hQ : ∀ (pc : Nat) (L : List (Nat × RV)) (z : Int) (M : Mem), decode cX12_work pc = .ok (.ireturn, 1) → Q z M → rG p l e R s m args below meth c cells slots Qs D aC ad 5 pc L [vI z] M) (hw : w_m_work_j0 Q x1 x2 x3 x4 s0 s1 s2 M) : rG p l e R s m args below meth c cells slots Qs D aC ad 5 37 [(0, vR 12), (1, vI x1), (2, vI x2), (3, vI x3), (4, vI x4)] [vJ s2, vJ s1, vJ s0] M := by
  unfold w_m_work_j0 at hw
  refine r_callS hC (d_m_in hw) kC12_in km12_165 kT12_in kN12 dd_12_in ⟨Nat.le_of_ble_eq_true rfl, Nat.le_of_ble_eq_true rfl⟩ rfl (Nat.le_of_ble_eq_true rfl) dX12_work_37 (fun r M' hp => ?_)
  obtain ⟨rfl, a1, rfl, hw⟩ := hp
  try dsimp only at hw
  obtain ⟨o2, hw⟩ := hw
  obtain ⟨hwt, hwf⟩ := hw
  refine r_if_eq hC 56 dX12_work_40 (by decide) o2.1 o2.2 (fun c4 => ?_) (fun c4 => ?_)
  · have hw := hwt c4
    refine r_sipush hC dX12_work_56 (by decide) ?_
    exact hQ _ _ _ _ dX12_work_59 hw
  · have hw := hwf c4
    refine r_iload hC dX12_work_43 rfl ?_
    obtain ⟨o5, hw⟩ := hw
    refine r_i2l hC dX12_work_45 o5.1 o5.2 ?_
    refine r_lconst hC 1 dX12_work_46 (by decide) ?_
    refine r_ldc2 hC (999) dX12_work_47 kL12_176 (by decide) ?_
    refine r_callS hC (d_m_in hw) kC12_in km12_165 kT12_in kN12 dd_12_in ⟨Nat.le_of_ble_eq_true rfl, Nat.le_of_ble_eq_true rfl⟩ rfl (Nat.le_of_ble_eq_true rfl) dX12_work_50 (fun r M' hp => ?_)
    obtain ⟨rfl, a6, rfl, hw⟩ := hp
    try dsimp only at hw
    obtain ⟨o7, hw⟩ := hw
    obtain ⟨hwt, hwf⟩ := hw
    refine r_if_ne hC 60 dX12_work_53 (by decide) o7.1 o7.2 (fun c9 => ?_) (fun c9 => ?_)
    · have hw := hwt c9
      refine r_aload_n hC dX12_work_60 rfl rfl ?_
      refine r_getI hC 50 rfl (by decide) kf12_219 rfl rfl dX12_work_61 (fun b11 b11' => ?_)
      replace hw := hw _ rfl b11 b11'
      refine r_bipush hC dX12_work_64 (by decide) ?_
      obtain ⟨hwt, hwf⟩ := hw
      refine r_icmp_ne hC 73 dX12_work_66 (by decide) (by omega) (by omega) (by decide) (by decide) (fun c14 => ?_) (fun c14 => ?_)
      · have hw := hwt c14
        refine r_aload_n hC dX12_work_73 rfl rfl ?_
        refine r_getR hC 51 rfl (by decide) kf12_122 rfl rfl dX12_work_74 ?_
        refine r_aload_n hC dX12_work_77 rfl rfl ?_
        refine r_getI hC 50 rfl (by decide) kf12_219 rfl rfl dX12_work_78 (fun b16 b16' => ?_)
        replace hw := hw _ rfl b16 b16'
        refine r_iload_n hC dX12_work_81 rfl rfl ?_
        obtain ⟨o17, hw⟩ := hw
        refine r_iast hC rfl o17.1.1 o17.1.2 (by decide) (by decide) o17.2.1 o17.2.2 dX12_work_82 ?_
        replace hw := hw _ rfl
        refine r_aload_n hC dX12_work_83 rfl rfl ?_
        refine r_getR hC 52 rfl (by decide) kf12_125 rfl rfl dX12_work_84 ?_
        refine r_aload_n hC dX12_work_87 rfl rfl ?_
        refine r_getI hC 50 rfl (by decide) kf12_219 rfl rfl dX12_work_88 (fun b20 b20' => ?_)
        replace hw := hw _ rfl b20 b20'
        refine r_iload_n hC dX12_work_91 rfl rfl ?_
        obtain ⟨o21, hw⟩ := hw
        refine r_iast hC rfl o21.1.1 o21.1.2 (by decide) (by decide) o21.2.1 o21.2.2 dX12_work_92 ?_
        replace hw := hw _ rfl
        refine r_aload_n hC dX12_work_93 rfl rfl ?_
        refine r_getR hC 53 rfl (by decide) kf12_128 rfl rfl dX12_work_94 ?_
        refine r_aload_n hC dX12_work_97 rfl rfl ?_
        refine r_getI hC 50 rfl (by decide) kf12_219 rfl rfl dX12_work_98 (fun b24 b24' => ?_)
        replace hw := hw _ rfl b24 b24'
        refine r_iload_n hC dX12_work_101 rfl rfl ?_
        obtain ⟨o25, hw⟩ := hw
        refine r_iast hC rfl o25.1.1 o25.1.2 (by decide) (by decide) o25.2.1 o25.2.2 dX12_work_102 ?_
        replace hw := hw _ rfl
        refine r_aload_n hC dX12_work_103 rfl rfl ?_
        refine r_getR hC 54 rfl (by decide) kf12_131 rfl rfl dX12_work_104 ?_
        refine r_aload_n hC dX12_work_107 rfl rfl ?_
        refine r_getI hC 50 rfl (by decide) kf12_219 rfl rfl dX12_work_108 (fun b28 b28' => ?_)
        replace hw := hw _ rfl b28 b28'
        refine r_iload hC dX12_work_111 rfl ?_
        obtain ⟨o29, hw⟩ := hw
        refine r_iast hC rfl o29.1.1 o29.1.2 (by decide) (by decide) o29.2.1 o29.2.2 dX12_work_113 ?_
        replace hw := hw _ rfl
        refine r_aload_n hC dX12_work_114 rfl rfl ?_
        refine r_dup hC dX12_work_115 rfl ?_
        refine r_getI hC 50 rfl (by decide) kf12_219 rfl rfl dX12_work_116 (fun b32 b32' => ?_)
        replace hw := hw _ rfl b32 b32'
        refine r_iconst hC dX12_work_119 ?_
        refine r_iadd hC dX12_work_120 ?_
        obtain ⟨o33, hw⟩ := hw
        refine r_putI hC 50 rfl (by decide) kf12_219 rfl rfl o33.1 o33.2 dX12_work_121 ?_
        replace hw := hw _ rfl
        refine r_aload_n hC dX12_work_124 rfl rfl ?_
        refine r_getI hC 50 rfl (by decide) kf12_219 rfl rfl dX12_work_125 (fun b36 b36' => ?_)
        replace hw := hw _ rfl b36 b36'
        refine r_iconst hC dX12_work_128 ?_
        refine r_isub hC dX12_work_129 ?_
        exact hQ _ _ _ _ dX12_work_130 hw
      · have hw := hwf c14
        refine r_sipush hC dX12_work_69 (by decide) ?_
        exact hQ _ _ _ _ dX12_work_72 hw
    · have hw := hwf c9
      refine r_sipush hC dX12_work_56 (by decide) ?_
      exact hQ _ _ _ _ dX12_work_59 hw
def w_m_work (M : Mem) (x1 : Int) (x2 : Int) (x3 : Int) (x4 : Int) (Q : Int → Mem → Prop) : Prop :=
  w_m_isColumn M x1 (fun a1 => (-2147483648 ≤ a1 ∧ a1 ≤ 2147483647) ∧ ((¬ (a1 = 0) → (-2147483648 ≤ x2 ∧ x2 ≤ 2147483647) ∧ (w_m_in M x2 0 1 (fun a6 => (-2147483648 ≤ a6 ∧ a6 ≤ 2147483647) ∧ ((a6 = 0 → Q (-1002) M) ∧ (¬ (a6 = 0) → (-2147483648 ≤ x3 ∧ x3 ≤ 2147483647) ∧ ((-2147483648 ≤ x2 ∧ x2 ≤ 2147483647) ∧ ((¬ (x2 = 0) → w_m_work_j0 Q x1 x2 x3 x4 x3 1 100 M) ∧ (x2 = 0 → w_m_work_j0 Q x1 x2 x3 x4 x3 1 500 M)))))))) ∧ (a1 = 0 → Q (-1001) M)))
set_option maxRecDepth 100000 in
set_option maxHeartbeats 4000000 in
theorem s_m_work {M : Mem} {x1 : Int} {x2 : Int} {x3 : Int} {x4 : Int} {Q : Int → Mem → Prop} (hC : rC p R s m args meth c cells slots D aC ad 5 cX12_work RX12 2 45 (some .int)) (hQ : ∀ (pc : Nat) (L : List (Nat × RV)) (z : Int) (M : Mem), decode cX12_work pc = .ok (.ireturn, 1) → Q z M → rG p l e R s m args below meth c cells slots Qs D aC ad 5 pc L [vI z] M) (hw : w_m_work M x1 x2 x3 x4 Q) : rG p l e R s m args below meth c cells slots Qs D aC ad 5 0 [(0, vR 12), (1, vI x1), (2, vI x2), (3, vI x3), (4, vI x4)] [] M := by
  unfold w_m_work at hw
  refine r_iload_n hC dX12_work_0 rfl rfl ?_
  refine r_callS hC (d_m_isColumn hw) kC12_isColumn km12_169 kT12_isColumn kN12 dd_12_isColumn ⟨Nat.le_of_ble_eq_true rfl, Nat.le_of_ble_eq_true rfl⟩ rfl (Nat.le_of_ble_eq_true rfl) dX12_work_1 (fun r M' hp => ?_)
  obtain ⟨rfl, a1, rfl, hw⟩ := hp
  try dsimp only at hw
  obtain ⟨o2, hw⟩ := hw
  obtain ⟨hwt, hwf⟩ := hw
  refine r_if_ne hC 11 dX12_work_4 (by decide) o2.1 o2.2 (fun c4 => ?_) (fun c4 => ?_)
  · have hw := hwt c4
    refine r_iload_n hC dX12_work_11 rfl rfl ?_
    obtain ⟨o5, hw⟩ := hw
    refine r_i2l hC dX12_work_12 o5.1 o5.2 ?_
    refine r_lconst hC 0 dX12_work_13 (by decide) ?_
    refine r_lconst hC 1 dX12_work_14 (by decide) ?_
    refine r_callS hC (d_m_in hw) kC12_in km12_165 kT12_in kN12 dd_12_in ⟨Nat.le_of_ble_eq_true rfl, Nat.le_of_ble_eq_true rfl⟩ rfl (Nat.le_of_ble_eq_true rfl) dX12_work_15 (fun r M' hp => ?_)
    obtain ⟨rfl, a6, rfl, hw⟩ := hp
    try dsimp only at hw
    obtain ⟨o7, hw⟩ := hw
    obtain ⟨hwt, hwf⟩ := hw
    refine r_if_eq hC 56 dX12_work_18 (by decide) o7.1 o7.2 (fun c9 => ?_) (fun c9 => ?_)
    · have hw := hwt c9
      refine r_sipush hC dX12_work_56 (by decide) ?_
      exact hQ _ _ _ _ dX12_work_59 hw
    · have hw := hwf c9
      refine r_iload_n hC dX12_work_21 rfl rfl ?_
      obtain ⟨o10, hw⟩ := hw
      refine r_i2l hC dX12_work_22 o10.1 o10.2 ?_
      refine r_lconst hC 1 dX12_work_23 (by decide) ?_
      refine r_iload_n hC dX12_work_24 rfl rfl ?_
      obtain ⟨o11, hw⟩ := hw
      obtain ⟨hwt, hwf⟩ := hw
      refine r_if_ne hC 34 dX12_work_25 (by decide) o11.1 o11.2 (fun c13 => ?_) (fun c13 => ?_)
      · have hw := hwt c13
        refine r_ldc2 hC (100) dX12_work_34 kL12_184 (by decide) ?_
        exact r_subk (s_m_work_j0 hC hQ hw) ⟨rfl, rfl, rfl, rfl, rfl, trivial⟩
      · have hw := hwf c13
        refine r_ldc2 hC (500) dX12_work_28 kL12_364 (by decide) ?_
        refine r_goto hC 37 dX12_work_31 (by decide) ?_
        exact r_subk (s_m_work_j0 hC hQ hw) ⟨rfl, rfl, rfl, rfl, rfl, trivial⟩
  · have hw := hwf c4
    refine r_sipush hC dX12_work_7 (by decide) ?_
    exact hQ _ _ _ _ dX12_work_10 hw
set_option maxRecDepth 100000 in
set_option maxHeartbeats 4000000 in
theorem d_m_work {l : Launch} {D : va_G} {aC : Nat → ClassId} {ad : Nat → Nat} {M : Mem} {x1 : Int} {x2 : Int} {x3 : Int} {x4 : Int} {Q : Int → Mem → Prop} (hw : w_m_work M x1 x2 x3 x4 Q) : Does l D aC ad yX12_work cX12_work 5 (some .int) 2 45 [vR 12, vI x1, vI x2, vI x3, vI x4] M (pI Q) :=
  Does.of (by decide) (Nat.le_of_ble_eq_true rfl) (fun p e R s m args below meth c hC => r_subk (s_m_work hC (fun pc L z M d h => r_iret hC d ⟨z, rfl, h⟩) hw) ⟨rfl, rfl, rfl, rfl, rfl, trivial⟩)
/-- SoupSandModel.hasHouse -/
def w_m_hasHouse_B0 (Q : Int → Prop) (x1 : Int) (M : Mem) (X4 : Int → Int → Prop) (x2 : Int) (x3 : Int) : Prop :=
  ∀ a1 : Int, a1 = M 12 39 → 0 ≤ a1 → a1 ≤ 8 → (-2147483648 ≤ x3 ∧ x3 ≤ 2147483647) ∧ ((a1 ≤ x3 → (0 ≤ x2 ∧ x2 ≤ 1) ∧ (Q x2)) ∧ (¬ (a1 ≤ x3) → (-2147483648 ≤ x2 ∧ x2 ≤ 2147483647) ∧ ((¬ (x2 = 0) → X4 1 (x3 + 1)) ∧ (x2 = 0 → (0 ≤ x3 ∧ x3 < 8) ∧ (∀ a11 : Int, a11 = M 83 x3 → 0 ≤ a11 → a11 ≤ 5 → (-2147483648 ≤ x1 ∧ x1 ≤ 2147483647) ∧ ((¬ (a11 = x1) → X4 0 (x3 + 1)) ∧ (a11 = x1 → X4 1 (x3 + 1))))))))
set_option maxRecDepth 100000 in
set_option maxHeartbeats 4000000 in
theorem s_m_hasHouse_B0 {Q : Int → Prop} {x1 : Int} {M : Mem} {X4 : Int → Int → Prop} {x2 : Int} {x3 : Int} (hC : rC p R s m args meth c cells slots D aC ad 4 cX12_hasHouse RX12 0 0 (some .boolean)) (hQ : ∀ (pc : Nat) (L : List (Nat × RV)) (z : Int), decode cX12_hasHouse pc = .ok (.ireturn, 1) → 0 ≤ z → z ≤ 1 → Q z → rG p l e R s m args below meth c cells slots Qs D aC ad 4 pc L [vI z] M) (hX4 : ∀ (x2 : Int) (x3 : Int), X4 x2 x3 → rG p l e R s m args below meth c cells slots Qs D aC ad 4 4 [(0, vR 12), (1, vI x1), (2, vI x2), (3, vI x3)] [] M) (hw : w_m_hasHouse_B0 Q x1 M X4 x2 x3) : rG p l e R s m args below meth c cells slots Qs D aC ad 4 4 [(0, vR 12), (1, vI x1), (2, vI x2), (3, vI x3)] [] M := by
  unfold w_m_hasHouse_B0 at hw
  refine r_iload_n hC dX12_hasHouse_4 rfl rfl ?_
  refine r_aload_n hC dX12_hasHouse_5 rfl rfl ?_
  refine r_getI hC 39 rfl (by decide) kf12_213 rfl rfl dX12_hasHouse_6 (fun b2 b2' => ?_)
  replace hw := hw _ rfl b2 b2'
  obtain ⟨o3, hw⟩ := hw
  obtain ⟨hwt, hwf⟩ := hw
  refine r_icmp_ge hC 38 dX12_hasHouse_9 (by decide) o3.1 o3.2 (by omega) (by omega) (fun c5 => ?_) (fun c5 => ?_)
  · have hw := hwt c5
    refine r_iload_n hC dX12_hasHouse_38 rfl rfl ?_
    obtain ⟨o6, hw⟩ := hw
    exact hQ _ _ _ dX12_hasHouse_39 o6.1 o6.2 hw
  · have hw := hwf c5
    refine r_iload_n hC dX12_hasHouse_12 rfl rfl ?_
    obtain ⟨o7, hw⟩ := hw
    obtain ⟨hwt, hwf⟩ := hw
    refine r_if_ne hC 26 dX12_hasHouse_13 (by decide) o7.1 o7.2 (fun c9 => ?_) (fun c9 => ?_)
    · have hw := hwt c9
      refine r_iconst hC dX12_hasHouse_26 ?_
      refine r_goto hC 31 dX12_hasHouse_27 (by decide) ?_
      refine r_istore_n hC dX12_hasHouse_31 rfl (by decide) ?_
      refine r_iinc hC dX12_hasHouse_32 rfl (by decide) ?_
      refine r_goto hC 4 dX12_hasHouse_35 (by decide) ?_
      exact r_subk (hX4 _ _ hw) ⟨rfl, rfl, rfl, rfl, trivial⟩
    · have hw := hwf c9
      refine r_aload_n hC dX12_hasHouse_16 rfl rfl ?_
      refine r_getR hC 40 rfl (by decide) kf12_101 rfl rfl dX12_hasHouse_17 ?_
      refine r_iload_n hC dX12_hasHouse_20 rfl rfl ?_
      obtain ⟨o10, hw⟩ := hw
      refine r_iald hC rfl o10.1 o10.2 (by decide) (by decide) dX12_hasHouse_21 (fun b12 b12' => ?_)
      replace hw := hw _ rfl b12 b12'
      refine r_iload_n hC dX12_hasHouse_22 rfl rfl ?_
      obtain ⟨o14, hw⟩ := hw
      obtain ⟨hwt, hwf⟩ := hw
      refine r_icmp_ne hC 30 dX12_hasHouse_23 (by decide) (by omega) (by omega) o14.1 o14.2 (fun c15 => ?_) (fun c15 => ?_)
      · have hw := hwt c15
        refine r_iconst hC dX12_hasHouse_30 ?_
        refine r_istore_n hC dX12_hasHouse_31 rfl (by decide) ?_
        refine r_iinc hC dX12_hasHouse_32 rfl (by decide) ?_
        refine r_goto hC 4 dX12_hasHouse_35 (by decide) ?_
        exact r_subk (hX4 _ _ hw) ⟨rfl, rfl, rfl, rfl, trivial⟩
      · have hw := hwf c15
        refine r_iconst hC dX12_hasHouse_26 ?_
        refine r_goto hC 31 dX12_hasHouse_27 (by decide) ?_
        refine r_istore_n hC dX12_hasHouse_31 rfl (by decide) ?_
        refine r_iinc hC dX12_hasHouse_32 rfl (by decide) ?_
        refine r_goto hC 4 dX12_hasHouse_35 (by decide) ?_
        exact r_subk (hX4 _ _ hw) ⟨rfl, rfl, rfl, rfl, trivial⟩
def w_m_hasHouse_L0 (Q : Int → Prop) (x1 : Int) (M : Mem) (x2 : Int) (x3 : Int) : Prop :=
  ∀ X : Int → Int → Prop, (∀ (x2 : Int) (x3 : Int), w_m_hasHouse_B0 Q x1 M X x2 x3 → X x2 x3) → X x2 x3
set_option maxRecDepth 100000 in
set_option maxHeartbeats 4000000 in
theorem s_m_hasHouse_L0 {Q : Int → Prop} {x1 : Int} {M : Mem} {x2 : Int} {x3 : Int} (hC : rC p R s m args meth c cells slots D aC ad 4 cX12_hasHouse RX12 0 0 (some .boolean)) (hQ : ∀ (pc : Nat) (L : List (Nat × RV)) (z : Int), decode cX12_hasHouse pc = .ok (.ireturn, 1) → 0 ≤ z → z ≤ 1 → Q z → rG p l e R s m args below meth c cells slots Qs D aC ad 4 pc L [vI z] M) (hw : w_m_hasHouse_L0 Q x1 M x2 x3) : rG p l e R s m args below meth c cells slots Qs D aC ad 4 4 [(0, vR 12), (1, vI x1), (2, vI x2), (3, vI x3)] [] M := by
  unfold w_m_hasHouse_L0 at hw
  exact hw (fun x2 x3 => rG p l e R s m args below meth c cells slots Qs D aC ad 4 4 [(0, vR 12), (1, vI x1), (2, vI x2), (3, vI x3)] [] M) (fun x2 x3 hb => s_m_hasHouse_B0 hC hQ (fun _ _ h => h) hb)
def w_m_hasHouse (M : Mem) (x1 : Int) (Q : Int → Prop) : Prop :=
  w_m_hasHouse_L0 Q x1 M 0 0
set_option maxRecDepth 100000 in
set_option maxHeartbeats 4000000 in
theorem s_m_hasHouse {M : Mem} {x1 : Int} {Q : Int → Prop} (hC : rC p R s m args meth c cells slots D aC ad 4 cX12_hasHouse RX12 0 0 (some .boolean)) (hQ : ∀ (pc : Nat) (L : List (Nat × RV)) (z : Int), decode cX12_hasHouse pc = .ok (.ireturn, 1) → 0 ≤ z → z ≤ 1 → Q z → rG p l e R s m args below meth c cells slots Qs D aC ad 4 pc L [vI z] M) (hw : w_m_hasHouse M x1 Q) : rG p l e R s m args below meth c cells slots Qs D aC ad 4 0 [(0, vR 12), (1, vI x1)] [] M := by
  unfold w_m_hasHouse at hw
  refine r_iconst hC dX12_hasHouse_0 ?_
  refine r_istore_n hC dX12_hasHouse_1 rfl (by decide) ?_
  refine r_iconst hC dX12_hasHouse_2 ?_
  refine r_istore_n hC dX12_hasHouse_3 rfl (by decide) ?_
  exact r_subk (s_m_hasHouse_L0 hC hQ hw) ⟨rfl, rfl, rfl, rfl, trivial⟩
set_option maxRecDepth 100000 in
set_option maxHeartbeats 4000000 in
theorem d_m_hasHouse {l : Launch} {D : va_G} {aC : Nat → ClassId} {ad : Nat → Nat} {M : Mem} {x1 : Int} {Q : Int → Prop} (hw : w_m_hasHouse M x1 Q) : Does l D aC ad yX12_hasHouse cX12_hasHouse 4 (some .boolean) 0 0 [vR 12, vI x1] M (qI M Q) :=
  Does.of (by decide) (Nat.le_of_ble_eq_true rfl) (fun p e R s m args below meth c hC => r_subk (s_m_hasHouse hC (fun pc L z d z1 z2 h => r_zret hC d z1 z2 ⟨rfl, ⟨z, rfl, h⟩⟩) hw) ⟨rfl, rfl, trivial⟩)
theorem dd_12_hasHouse : yX12_hasHouse.cls ≠ "java/lang/invoke/MethodHandle" ∧ yX12_hasHouse.cls ≠ "java/lang/invoke/VarHandle" ∧ (parseMethodDescriptor yX12_hasHouse.desc).map (fun d => d.parameters.length) = some 1 := by decide +kernel
/-- SoupSandModel.findAllKept -/
def w_m_findAllKept_B0 (Q : Int → Mem → Prop) (X4 : Int → Int → Mem → Prop) (x1 : Int) (x2 : Int) (M : Mem) : Prop :=
  (-2147483648 ≤ x2 ∧ x2 ≤ 2147483647) ∧ ((6 ≤ x2 → (0 ≤ x1 ∧ x1 ≤ 1) ∧ (Q x1 M)) ∧ (¬ (6 ≤ x2) → (-2147483648 ≤ x1 ∧ x1 ≤ 2147483647) ∧ ((x1 = 0 → X4 0 (x2 + 1) M) ∧ (¬ (x1 = 0) → w_m_hasHouse M x2 (fun a8 => (-2147483648 ≤ a8 ∧ a8 ≤ 2147483647) ∧ ((a8 = 0 → X4 1 (x2 + 1) M) ∧ (¬ (a8 = 0) → w_m_findKept M x2 (fun a12 M13 => (-2147483648 ≤ a12 ∧ a12 ≤ 2147483647) ∧ ((a12 ≤ 0 → X4 0 (x2 + 1) M13) ∧ (¬ (a12 ≤ 0) → X4 1 (x2 + 1) M13))))))))))
set_option maxRecDepth 100000 in
set_option maxHeartbeats 4000000 in
theorem s_m_findAllKept_B0 {Q : Int → Mem → Prop} {X4 : Int → Int → Mem → Prop} {x1 : Int} {x2 : Int} {M : Mem} (hC : rC p R s m args meth c cells slots D aC ad 3 cX12_findAllKept RX12 8 189 (some .boolean)) (hQ : ∀ (pc : Nat) (L : List (Nat × RV)) (z : Int) (M : Mem), decode cX12_findAllKept pc = .ok (.ireturn, 1) → 0 ≤ z → z ≤ 1 → Q z M → rG p l e R s m args below meth c cells slots Qs D aC ad 3 pc L [vI z] M) (hX4 : ∀ (x1 : Int) (x2 : Int) (M : Mem), X4 x1 x2 M → rG p l e R s m args below meth c cells slots Qs D aC ad 3 4 [(0, vR 12), (1, vI x1), (2, vI x2)] [] M) (hw : w_m_findAllKept_B0 Q X4 x1 x2 M) : rG p l e R s m args below meth c cells slots Qs D aC ad 3 4 [(0, vR 12), (1, vI x1), (2, vI x2)] [] M := by
  unfold w_m_findAllKept_B0 at hw
  refine r_iload_n hC dX12_findAllKept_4 rfl rfl ?_
  refine r_bipush hC dX12_findAllKept_5 (by decide) ?_
  obtain ⟨o1, hw⟩ := hw
  obtain ⟨hwt, hwf⟩ := hw
  refine r_icmp_ge hC 42 dX12_findAllKept_7 (by decide) o1.1 o1.2 (by decide) (by decide) (fun c3 => ?_) (fun c3 => ?_)
  · have hw := hwt c3
    refine r_iload_n hC dX12_findAllKept_42 rfl rfl ?_
    obtain ⟨o4, hw⟩ := hw
    exact hQ _ _ _ _ dX12_findAllKept_43 o4.1 o4.2 hw
  · have hw := hwf c3
    refine r_iload_n hC dX12_findAllKept_10 rfl rfl ?_
    obtain ⟨o5, hw⟩ := hw
    obtain ⟨hwt, hwf⟩ := hw
    refine r_if_eq hC 34 dX12_findAllKept_11 (by decide) o5.1 o5.2 (fun c7 => ?_) (fun c7 => ?_)
    · have hw := hwt c7
      refine r_iconst hC dX12_findAllKept_34 ?_
      refine r_istore_n hC dX12_findAllKept_35 rfl (by decide) ?_
      refine r_iinc hC dX12_findAllKept_36 rfl (by decide) ?_
      refine r_goto hC 4 dX12_findAllKept_39 (by decide) ?_
      exact r_subk (hX4 _ _ _ hw) ⟨rfl, rfl, rfl, trivial⟩
    · have hw := hwf c7
      refine r_aload_n hC dX12_findAllKept_14 rfl rfl ?_
      refine r_iload_n hC dX12_findAllKept_15 rfl rfl ?_
      refine r_callV hC (d_m_hasHouse hw) rfl kC12_hasHouse km12_366 kI12_hasHouse kS12_hasHouse kN12 dd_12_hasHouse ⟨Nat.le_of_ble_eq_true rfl, Nat.le_of_ble_eq_true rfl⟩ rfl (Nat.le_of_ble_eq_true rfl) dX12_findAllKept_16 (fun r M' hp => ?_)
      obtain ⟨rfl, a8, rfl, hw⟩ := hp
      try dsimp only at hw
      obtain ⟨o9, hw⟩ := hw
      obtain ⟨hwt, hwf⟩ := hw
      refine r_if_eq hC 30 dX12_findAllKept_19 (by decide) o9.1 o9.2 (fun c11 => ?_) (fun c11 => ?_)
      · have hw := hwt c11
        refine r_iconst hC dX12_findAllKept_30 ?_
        refine r_goto hC 35 dX12_findAllKept_31 (by decide) ?_
        refine r_istore_n hC dX12_findAllKept_35 rfl (by decide) ?_
        refine r_iinc hC dX12_findAllKept_36 rfl (by decide) ?_
        refine r_goto hC 4 dX12_findAllKept_39 (by decide) ?_
        exact r_subk (hX4 _ _ _ hw) ⟨rfl, rfl, rfl, trivial⟩
      · have hw := hwf c11
        refine r_aload_n hC dX12_findAllKept_22 rfl rfl ?_
        refine r_iload_n hC dX12_findAllKept_23 rfl rfl ?_
        refine r_callV hC (d_m_findKept hw) rfl kC12_findKept km12_276 kI12_findKept kS12_findKept kN12 dd_12_findKept ⟨Nat.le_of_ble_eq_true rfl, Nat.le_of_ble_eq_true rfl⟩ rfl (Nat.le_of_ble_eq_true rfl) dX12_findAllKept_24 (fun r M' hp => ?_)
        obtain ⟨a12, rfl, hw⟩ := hp
        try dsimp only at hw
        obtain ⟨o14, hw⟩ := hw
        obtain ⟨hwt, hwf⟩ := hw
        refine r_if_le hC 34 dX12_findAllKept_27 (by decide) o14.1 o14.2 (fun c16 => ?_) (fun c16 => ?_)
        · have hw := hwt c16
          refine r_iconst hC dX12_findAllKept_34 ?_
          refine r_istore_n hC dX12_findAllKept_35 rfl (by decide) ?_
          refine r_iinc hC dX12_findAllKept_36 rfl (by decide) ?_
          refine r_goto hC 4 dX12_findAllKept_39 (by decide) ?_
          exact r_subk (hX4 _ _ _ hw) ⟨rfl, rfl, rfl, trivial⟩
        · have hw := hwf c16
          refine r_iconst hC dX12_findAllKept_30 ?_
          refine r_goto hC 35 dX12_findAllKept_31 (by decide) ?_
          refine r_istore_n hC dX12_findAllKept_35 rfl (by decide) ?_
          refine r_iinc hC dX12_findAllKept_36 rfl (by decide) ?_
          refine r_goto hC 4 dX12_findAllKept_39 (by decide) ?_
          exact r_subk (hX4 _ _ _ hw) ⟨rfl, rfl, rfl, trivial⟩
def w_m_findAllKept_L0 (Q : Int → Mem → Prop) (x1 : Int) (x2 : Int) (M : Mem) : Prop :=
  ∀ X : Int → Int → Mem → Prop, (∀ (x1 : Int) (x2 : Int) (M : Mem), w_m_findAllKept_B0 Q X x1 x2 M → X x1 x2 M) → X x1 x2 M
set_option maxRecDepth 100000 in
set_option maxHeartbeats 4000000 in
theorem s_m_findAllKept_L0 {Q : Int → Mem → Prop} {x1 : Int} {x2 : Int} {M : Mem} (hC : rC p R s m args meth c cells slots D aC ad 3 cX12_findAllKept RX12 8 189 (some .boolean)) (hQ : ∀ (pc : Nat) (L : List (Nat × RV)) (z : Int) (M : Mem), decode cX12_findAllKept pc = .ok (.ireturn, 1) → 0 ≤ z → z ≤ 1 → Q z M → rG p l e R s m args below meth c cells slots Qs D aC ad 3 pc L [vI z] M) (hw : w_m_findAllKept_L0 Q x1 x2 M) : rG p l e R s m args below meth c cells slots Qs D aC ad 3 4 [(0, vR 12), (1, vI x1), (2, vI x2)] [] M := by
  unfold w_m_findAllKept_L0 at hw
  exact hw (fun x1 x2 M => rG p l e R s m args below meth c cells slots Qs D aC ad 3 4 [(0, vR 12), (1, vI x1), (2, vI x2)] [] M) (fun x1 x2 M hb => s_m_findAllKept_B0 hC hQ (fun _ _ _ h => h) hb)
def w_m_findAllKept (M : Mem) (Q : Int → Mem → Prop) : Prop :=
  w_m_findAllKept_L0 Q 1 0 M
set_option maxRecDepth 100000 in
set_option maxHeartbeats 4000000 in
theorem s_m_findAllKept {M : Mem} {Q : Int → Mem → Prop} (hC : rC p R s m args meth c cells slots D aC ad 3 cX12_findAllKept RX12 8 189 (some .boolean)) (hQ : ∀ (pc : Nat) (L : List (Nat × RV)) (z : Int) (M : Mem), decode cX12_findAllKept pc = .ok (.ireturn, 1) → 0 ≤ z → z ≤ 1 → Q z M → rG p l e R s m args below meth c cells slots Qs D aC ad 3 pc L [vI z] M) (hw : w_m_findAllKept M Q) : rG p l e R s m args below meth c cells slots Qs D aC ad 3 0 [(0, vR 12)] [] M := by
  unfold w_m_findAllKept at hw
  refine r_iconst hC dX12_findAllKept_0 ?_
  refine r_istore_n hC dX12_findAllKept_1 rfl (by decide) ?_
  refine r_iconst hC dX12_findAllKept_2 ?_
  refine r_istore_n hC dX12_findAllKept_3 rfl (by decide) ?_
  exact r_subk (s_m_findAllKept_L0 hC hQ hw) ⟨rfl, rfl, rfl, trivial⟩
set_option maxRecDepth 100000 in
set_option maxHeartbeats 4000000 in
theorem d_m_findAllKept {l : Launch} {D : va_G} {aC : Nat → ClassId} {ad : Nat → Nat} {M : Mem} {Q : Int → Mem → Prop} (hw : w_m_findAllKept M Q) : Does l D aC ad yX12_findAllKept cX12_findAllKept 3 (some .boolean) 8 189 [vR 12] M (pI Q) :=
  Does.of (by decide) (Nat.le_of_ble_eq_true rfl) (fun p e R s m args below meth c hC => r_subk (s_m_findAllKept hC (fun pc L z M d z1 z2 h => r_zret hC d z1 z2 ⟨z, rfl, h⟩) hw) ⟨rfl, trivial⟩)
/-- SoupSandModel.lookAnew -/
def w_m_lookAnew_B0 (Q : Mem → Prop) (X2 : Int → Mem → Prop) (x1 : Int) (M : Mem) : Prop :=
  (-2147483648 ≤ x1 ∧ x1 ≤ 2147483647) ∧ ((384 ≤ x1 → Q M) ∧ (¬ (384 ≤ x1) → (0 ≤ x1 ∧ x1 < 384) ∧ (∀ M5 : Mem, M5 = mset M 96 x1 0 → X2 (x1 + 1) M5)))
set_option maxRecDepth 100000 in
set_option maxHeartbeats 4000000 in
theorem s_m_lookAnew_B0 {Q : Mem → Prop} {X2 : Int → Mem → Prop} {x1 : Int} {M : Mem} (hC : rC p R s m args meth c cells slots D aC ad 2 cX12_lookAnew RX12 0 0 none) (hQ : ∀ (pc : Nat) (L : List (Nat × RV)) (M : Mem), decode cX12_lookAnew pc = .ok (.return_, 1) → Q M → rG p l e R s m args below meth c cells slots Qs D aC ad 2 pc L [] M) (hX2 : ∀ (x1 : Int) (M : Mem), X2 x1 M → rG p l e R s m args below meth c cells slots Qs D aC ad 2 2 [(0, vR 12), (1, vI x1)] [] M) (hw : w_m_lookAnew_B0 Q X2 x1 M) : rG p l e R s m args below meth c cells slots Qs D aC ad 2 2 [(0, vR 12), (1, vI x1)] [] M := by
  unfold w_m_lookAnew_B0 at hw
  refine r_iload_n hC dX12_lookAnew_2 rfl rfl ?_
  refine r_sipush hC dX12_lookAnew_3 (by decide) ?_
  obtain ⟨o1, hw⟩ := hw
  obtain ⟨hwt, hwf⟩ := hw
  refine r_icmp_ge hC 22 dX12_lookAnew_6 (by decide) o1.1 o1.2 (by decide) (by decide) (fun c3 => ?_) (fun c3 => ?_)
  · have hw := hwt c3
    exact hQ _ _ _ dX12_lookAnew_22 hw
  · have hw := hwf c3
    refine r_aload_n hC dX12_lookAnew_9 rfl rfl ?_
    refine r_getR hC 57 rfl (by decide) kf12_140 rfl rfl dX12_lookAnew_10 ?_
    refine r_iload_n hC dX12_lookAnew_13 rfl rfl ?_
    refine r_iconst hC dX12_lookAnew_14 ?_
    obtain ⟨o4, hw⟩ := hw
    refine r_iast hC rfl o4.1 o4.2 (by decide) (by decide) (by decide) (by decide) dX12_lookAnew_15 ?_
    replace hw := hw _ rfl
    refine r_iinc hC dX12_lookAnew_16 rfl (by decide) ?_
    refine r_goto hC 2 dX12_lookAnew_19 (by decide) ?_
    exact r_subk (hX2 _ _ hw) ⟨rfl, rfl, trivial⟩
def w_m_lookAnew_L0 (Q : Mem → Prop) (x1 : Int) (M : Mem) : Prop :=
  ∀ X : Int → Mem → Prop, (∀ (x1 : Int) (M : Mem), w_m_lookAnew_B0 Q X x1 M → X x1 M) → X x1 M
set_option maxRecDepth 100000 in
set_option maxHeartbeats 4000000 in
theorem s_m_lookAnew_L0 {Q : Mem → Prop} {x1 : Int} {M : Mem} (hC : rC p R s m args meth c cells slots D aC ad 2 cX12_lookAnew RX12 0 0 none) (hQ : ∀ (pc : Nat) (L : List (Nat × RV)) (M : Mem), decode cX12_lookAnew pc = .ok (.return_, 1) → Q M → rG p l e R s m args below meth c cells slots Qs D aC ad 2 pc L [] M) (hw : w_m_lookAnew_L0 Q x1 M) : rG p l e R s m args below meth c cells slots Qs D aC ad 2 2 [(0, vR 12), (1, vI x1)] [] M := by
  unfold w_m_lookAnew_L0 at hw
  exact hw (fun x1 M => rG p l e R s m args below meth c cells slots Qs D aC ad 2 2 [(0, vR 12), (1, vI x1)] [] M) (fun x1 M hb => s_m_lookAnew_B0 hC hQ (fun _ _ h => h) hb)
def w_m_lookAnew (M : Mem) (Q : Mem → Prop) : Prop :=
  w_m_lookAnew_L0 Q 0 M
set_option maxRecDepth 100000 in
set_option maxHeartbeats 4000000 in
theorem s_m_lookAnew {M : Mem} {Q : Mem → Prop} (hC : rC p R s m args meth c cells slots D aC ad 2 cX12_lookAnew RX12 0 0 none) (hQ : ∀ (pc : Nat) (L : List (Nat × RV)) (M : Mem), decode cX12_lookAnew pc = .ok (.return_, 1) → Q M → rG p l e R s m args below meth c cells slots Qs D aC ad 2 pc L [] M) (hw : w_m_lookAnew M Q) : rG p l e R s m args below meth c cells slots Qs D aC ad 2 0 [(0, vR 12)] [] M := by
  unfold w_m_lookAnew at hw
  refine r_iconst hC dX12_lookAnew_0 ?_
  refine r_istore_n hC dX12_lookAnew_1 rfl (by decide) ?_
  exact r_subk (s_m_lookAnew_L0 hC hQ hw) ⟨rfl, rfl, trivial⟩
set_option maxRecDepth 100000 in
set_option maxHeartbeats 4000000 in
theorem d_m_lookAnew {l : Launch} {D : va_G} {aC : Nat → ClassId} {ad : Nat → Nat} {M : Mem} {Q : Mem → Prop} (hw : w_m_lookAnew M Q) : Does l D aC ad yX12_lookAnew cX12_lookAnew 2 none 0 0 [vR 12] M (pV Q) :=
  Does.of (by decide) (Nat.le_of_ble_eq_true rfl) (fun p e R s m args below meth c hC => r_subk (s_m_lookAnew hC (fun pc L M d h => r_vret hC d ⟨rfl, h⟩) hw) ⟨rfl, trivial⟩)
/-- SoupSandModel.isSafe -/
def w_m_isSafe_B0 (Q : Int → Prop) (x1 : Int) (M : Mem) (X2 : Int → Prop) (x3 : Int) : Prop :=
  ∀ a1 : Int, a1 = M 12 39 → 0 ≤ a1 → a1 ≤ 8 → (-2147483648 ≤ x3 ∧ x3 ≤ 2147483647) ∧ ((a1 ≤ x3 → Q 1) ∧ (¬ (a1 ≤ x3) → (0 ≤ x3 ∧ x3 < 8) ∧ (∀ a8 : Int, a8 = M 83 x3 → 0 ≤ a8 → a8 ≤ 5 → (-2147483648 ≤ x1 ∧ x1 ≤ 2147483647) ∧ ((¬ (a8 = x1) → X2 (x3 + 1)) ∧ (a8 = x1 → w_m_sinkOf M x3 (fun a13 => ∀ a15 : Int, a15 = M 64 23 → 0 ≤ a15 → a15 ≤ 999 → (-2147483648 ≤ a13 ∧ a13 ≤ 2147483647) ∧ ((a13 < a15 → X2 (x3 + 1)) ∧ (¬ (a13 < a15) → Q 0))))))))
set_option maxRecDepth 100000 in
set_option maxHeartbeats 4000000 in
theorem s_m_isSafe_B0 {Q : Int → Prop} {x1 : Int} {M : Mem} {X2 : Int → Prop} {x3 : Int} (hC : rC p R s m args meth c cells slots D aC ad 4 cX12_isSafe RX12 3 72 (some .boolean)) (hQ : ∀ (pc : Nat) (L : List (Nat × RV)) (z : Int), decode cX12_isSafe pc = .ok (.ireturn, 1) → 0 ≤ z → z ≤ 1 → Q z → rG p l e R s m args below meth c cells slots Qs D aC ad 4 pc L [vI z] M) (hX2 : ∀ (x3 : Int), X2 x3 → rG p l e R s m args below meth c cells slots Qs D aC ad 4 2 [(0, vR 12), (1, vI x1), (3, vI x3)] [] M) (hw : w_m_isSafe_B0 Q x1 M X2 x3) : rG p l e R s m args below meth c cells slots Qs D aC ad 4 2 [(0, vR 12), (1, vI x1), (3, vI x3)] [] M := by
  unfold w_m_isSafe_B0 at hw
  refine r_iload_n hC dX12_isSafe_2 rfl rfl ?_
  refine r_aload_n hC dX12_isSafe_3 rfl rfl ?_
  refine r_getI hC 39 rfl (by decide) kf12_213 rfl rfl dX12_isSafe_4 (fun b2 b2' => ?_)
  replace hw := hw _ rfl b2 b2'
  obtain ⟨o3, hw⟩ := hw
  obtain ⟨hwt, hwf⟩ := hw
  refine r_icmp_ge hC 43 dX12_isSafe_7 (by decide) o3.1 o3.2 (by omega) (by omega) (fun c5 => ?_) (fun c5 => ?_)
  · have hw := hwt c5
    refine r_iconst hC dX12_isSafe_43 ?_
    exact hQ _ _ _ dX12_isSafe_44 (by decide) (by decide) hw
  · have hw := hwf c5
    refine r_aload_n hC dX12_isSafe_10 rfl rfl ?_
    refine r_getR hC 40 rfl (by decide) kf12_101 rfl rfl dX12_isSafe_11 ?_
    refine r_iload_n hC dX12_isSafe_14 rfl rfl ?_
    obtain ⟨o7, hw⟩ := hw
    refine r_iald hC rfl o7.1 o7.2 (by decide) (by decide) dX12_isSafe_15 (fun b9 b9' => ?_)
    replace hw := hw _ rfl b9 b9'
    refine r_iload_n hC dX12_isSafe_16 rfl rfl ?_
    obtain ⟨o11, hw⟩ := hw
    obtain ⟨hwt, hwf⟩ := hw
    refine r_icmp_ne hC 37 dX12_isSafe_17 (by decide) (by omega) (by omega) o11.1 o11.2 (fun c12 => ?_) (fun c12 => ?_)
    · have hw := hwt c12
      refine r_iinc hC dX12_isSafe_37 rfl (by decide) ?_
      refine r_goto hC 2 dX12_isSafe_40 (by decide) ?_
      exact r_subk (hX2 _ hw) ⟨rfl, rfl, rfl, trivial⟩
    · have hw := hwf c12
      refine r_aload_n hC dX12_isSafe_20 rfl rfl ?_
      refine r_iload_n hC dX12_isSafe_21 rfl rfl ?_
      refine r_callV hC (d_m_sinkOf hw) rfl kC12_sinkOf km12_325 kI12_sinkOf kS12_sinkOf kN12 dd_12_sinkOf ⟨Nat.le_of_ble_eq_true rfl, Nat.le_of_ble_eq_true rfl⟩ rfl (Nat.le_of_ble_eq_true rfl) dX12_isSafe_22 (fun r M' hp => ?_)
      obtain ⟨rfl, a13, rfl, hw⟩ := hp
      try dsimp only at hw
      refine r_aload_n hC dX12_isSafe_25 rfl rfl ?_
      refine r_getR hC 12 rfl (by decide) kf12_43 rfl rfl dX12_isSafe_26 ?_
      refine r_bipush hC dX12_isSafe_29 (by decide) ?_
      refine r_iald hC rfl (by decide) (by decide) (by decide) (by decide) dX12_isSafe_31 (fun b16 b16' => ?_)
      replace hw := hw _ rfl b16 b16'
      obtain ⟨o17, hw⟩ := hw
      obtain ⟨hwt, hwf⟩ := hw
      refine r_icmp_lt hC 37 dX12_isSafe_32 (by decide) o17.1 o17.2 (by omega) (by omega) (fun c19 => ?_) (fun c19 => ?_)
      · have hw := hwt c19
        refine r_iinc hC dX12_isSafe_37 rfl (by decide) ?_
        refine r_goto hC 2 dX12_isSafe_40 (by decide) ?_
        exact r_subk (hX2 _ hw) ⟨rfl, rfl, rfl, trivial⟩
      · have hw := hwf c19
        refine r_iconst hC dX12_isSafe_35 ?_
        exact hQ _ _ _ dX12_isSafe_36 (by decide) (by decide) hw
def w_m_isSafe_L0 (Q : Int → Prop) (x1 : Int) (M : Mem) (x3 : Int) : Prop :=
  ∀ X : Int → Prop, (∀ (x3 : Int), w_m_isSafe_B0 Q x1 M X x3 → X x3) → X x3
set_option maxRecDepth 100000 in
set_option maxHeartbeats 4000000 in
theorem s_m_isSafe_L0 {Q : Int → Prop} {x1 : Int} {M : Mem} {x3 : Int} (hC : rC p R s m args meth c cells slots D aC ad 4 cX12_isSafe RX12 3 72 (some .boolean)) (hQ : ∀ (pc : Nat) (L : List (Nat × RV)) (z : Int), decode cX12_isSafe pc = .ok (.ireturn, 1) → 0 ≤ z → z ≤ 1 → Q z → rG p l e R s m args below meth c cells slots Qs D aC ad 4 pc L [vI z] M) (hw : w_m_isSafe_L0 Q x1 M x3) : rG p l e R s m args below meth c cells slots Qs D aC ad 4 2 [(0, vR 12), (1, vI x1), (3, vI x3)] [] M := by
  unfold w_m_isSafe_L0 at hw
  exact hw (fun x3 => rG p l e R s m args below meth c cells slots Qs D aC ad 4 2 [(0, vR 12), (1, vI x1), (3, vI x3)] [] M) (fun x3 hb => s_m_isSafe_B0 hC hQ (fun _ h => h) hb)
def w_m_isSafe (M : Mem) (x1 : Int) (x2 : Int) (Q : Int → Prop) : Prop :=
  w_m_isSafe_L0 Q x1 M 0
set_option maxRecDepth 100000 in
set_option maxHeartbeats 4000000 in
theorem s_m_isSafe {M : Mem} {x1 : Int} {x2 : Int} {Q : Int → Prop} (hC : rC p R s m args meth c cells slots D aC ad 4 cX12_isSafe RX12 3 72 (some .boolean)) (hQ : ∀ (pc : Nat) (L : List (Nat × RV)) (z : Int), decode cX12_isSafe pc = .ok (.ireturn, 1) → 0 ≤ z → z ≤ 1 → Q z → rG p l e R s m args below meth c cells slots Qs D aC ad 4 pc L [vI z] M) (hw : w_m_isSafe M x1 x2 Q) : rG p l e R s m args below meth c cells slots Qs D aC ad 4 0 [(0, vR 12), (1, vI x1), (2, vI x2)] [] M := by
  unfold w_m_isSafe at hw
  refine r_iconst hC dX12_isSafe_0 ?_
  refine r_istore_n hC dX12_isSafe_1 rfl (by decide) ?_
  exact r_subk (s_m_isSafe_L0 hC hQ hw) ⟨rfl, rfl, rfl, trivial⟩
set_option maxRecDepth 100000 in
set_option maxHeartbeats 4000000 in
theorem d_m_isSafe {l : Launch} {D : va_G} {aC : Nat → ClassId} {ad : Nat → Nat} {M : Mem} {x1 : Int} {x2 : Int} {Q : Int → Prop} (hw : w_m_isSafe M x1 x2 Q) : Does l D aC ad yX12_isSafe cX12_isSafe 4 (some .boolean) 3 72 [vR 12, vI x1, vI x2] M (qI M Q) :=
  Does.of (by decide) (Nat.le_of_ble_eq_true rfl) (fun p e R s m args below meth c hC => r_subk (s_m_isSafe hC (fun pc L z d z1 z2 h => r_zret hC d z1 z2 ⟨rfl, ⟨z, rfl, h⟩⟩) hw) ⟨rfl, rfl, rfl, trivial⟩)
theorem dd_12_isSafe : yX12_isSafe.cls ≠ "java/lang/invoke/MethodHandle" ∧ yX12_isSafe.cls ≠ "java/lang/invoke/VarHandle" ∧ (parseMethodDescriptor yX12_isSafe.desc).map (fun d => d.parameters.length) = some 2 := by decide +kernel
/-- SoupSandModel.columnStands -/
def w_m_columnStands_B2 (Q : Int → Mem → Prop) (X206 : Int → Mem → Prop) (x1 : Int) (x3 : Int) (X218 : Int → Mem → Prop) (x4 : Int) (M : Mem) : Prop :=
  ∀ a1 : Int, a1 = M 12 8 → 0 ≤ a1 → a1 ≤ 6 → (-2147483648 ≤ x4 ∧ x4 ≤ 2147483647) ∧ ((a1 ≤ x4 → X206 (x3 + 1) M) ∧ (¬ (a1 ≤ x4) → (0 ≤ (729 * x1) + x3 ∧ (729 * x1) + x3 < 4374) ∧ (∀ a7 : Int, a7 = M 82 ((729 * x1) + x3) → 0 ≤ a7 → a7 ≤ 1 → (a7 = 0 → X206 (x3 + 1) M) ∧ (¬ (a7 = 0) → w_m_choose M x1 x3 (fun M13 => w_m_runOf M13 x1 x4 (fun M15 => w_m_isSafe M15 x1 x4 (fun a16 => (-2147483648 ≤ a16 ∧ a16 ≤ 2147483647) ∧ ((¬ (a16 = 0) → X218 (x4 + 1) M15) ∧ (a16 = 0 → ((0 ≤ x1 ∧ x1 < 6) ∧ (0 ≤ x3 ∧ x3 ≤ 729)) ∧ (∀ M21 : Mem, M21 = mset M15 94 x1 x3 → ((0 ≤ x1 ∧ x1 < 6) ∧ (0 ≤ x4 ∧ x4 ≤ 6)) ∧ (∀ M23 : Mem, M23 = mset M21 95 x1 x4 → Q 0 M23)))))))))))
set_option maxRecDepth 100000 in
set_option maxHeartbeats 4000000 in
theorem s_m_columnStands_B2 {Q : Int → Mem → Prop} {X206 : Int → Mem → Prop} {x1 : Int} {x3 : Int} {X218 : Int → Mem → Prop} {x4 : Int} {M : Mem} (hC : rC p R s m args meth c cells slots D aC ad 5 cX12_columnStands RX12 5 120 (some .boolean)) (hQ : ∀ (pc : Nat) (L : List (Nat × RV)) (z : Int) (M : Mem), decode cX12_columnStands pc = .ok (.ireturn, 1) → 0 ≤ z → z ≤ 1 → Q z M → rG p l e R s m args below meth c cells slots Qs D aC ad 5 pc L [vI z] M) (hX206 : ∀ (x3 : Int) (M : Mem), X206 x3 M → rG p l e R s m args below meth c cells slots Qs D aC ad 5 206 [(0, vR 12), (1, vI x1), (3, vI x3)] [] M) (hX218 : ∀ (x4 : Int) (M : Mem), X218 x4 M → rG p l e R s m args below meth c cells slots Qs D aC ad 5 218 [(0, vR 12), (1, vI x1), (3, vI x3), (4, vI x4)] [] M) (hw : w_m_columnStands_B2 Q X206 x1 x3 X218 x4 M) : rG p l e R s m args below meth c cells slots Qs D aC ad 5 218 [(0, vR 12), (1, vI x1), (3, vI x3), (4, vI x4)] [] M := by
  unfold w_m_columnStands_B2 at hw
  refine r_iload hC dX12_columnStands_218 rfl ?_
  refine r_aload_n hC dX12_columnStands_220 rfl rfl ?_
  refine r_getI hC 8 rfl (by decide) kf12_173 rfl rfl dX12_columnStands_221 (fun b2 b2' => ?_)
  replace hw := hw _ rfl b2 b2'
  obtain ⟨o3, hw⟩ := hw
  obtain ⟨hwt, hwf⟩ := hw
  refine r_icmp_ge hC 288 dX12_columnStands_224 (by decide) o3.1 o3.2 (by omega) (by omega) (fun c5 => ?_) (fun c5 => ?_)
  · have hw := hwt c5
    refine r_iinc hC dX12_columnStands_288 rfl (by decide) ?_
    refine r_goto hC 206 dX12_columnStands_291 (by decide) ?_
    exact r_subk (hX206 _ _ hw) ⟨rfl, rfl, rfl, trivial⟩
  · have hw := hwf c5
    refine r_aload_n hC dX12_columnStands_227 rfl rfl ?_
    refine r_getR hC 34 rfl (by decide) kf12_98 rfl rfl dX12_columnStands_228 ?_
    refine r_sipush hC dX12_columnStands_231 (by decide) ?_
    refine r_iload_n hC dX12_columnStands_234 rfl rfl ?_
    refine r_imul hC dX12_columnStands_235 ?_
    refine r_iload_n hC dX12_columnStands_236 rfl rfl ?_
    refine r_iadd hC dX12_columnStands_237 ?_
    obtain ⟨o6, hw⟩ := hw
    refine r_zald hC rfl o6.1 o6.2 (by decide) (by decide) dX12_columnStands_238 (fun b8 b8' => ?_)
    replace hw := hw _ rfl b8 b8'
    obtain ⟨hwt, hwf⟩ := hw
    refine r_if_eq hC 288 dX12_columnStands_239 (by decide) (by omega) (by omega) (fun c11 => ?_) (fun c11 => ?_)
    · have hw := hwt c11
      refine r_iinc hC dX12_columnStands_288 rfl (by decide) ?_
      refine r_goto hC 206 dX12_columnStands_291 (by decide) ?_
      exact r_subk (hX206 _ _ hw) ⟨rfl, rfl, rfl, trivial⟩
    · have hw := hwf c11
      refine r_aload_n hC dX12_columnStands_242 rfl rfl ?_
      refine r_iload_n hC dX12_columnStands_243 rfl rfl ?_
      refine r_iload_n hC dX12_columnStands_244 rfl rfl ?_
      refine r_callV hC (d_m_choose hw) rfl kC12_choose km12_246 kI12_choose kS12_choose kN12 dd_12_choose ⟨Nat.le_of_ble_eq_true rfl, Nat.le_of_ble_eq_true rfl⟩ rfl (Nat.le_of_ble_eq_true rfl) dX12_columnStands_245 (fun r M' hp => ?_)
      obtain ⟨rfl, hw⟩ := hp
      try dsimp only at hw
      refine r_aload_n hC dX12_columnStands_248 rfl rfl ?_
      refine r_iload_n hC dX12_columnStands_249 rfl rfl ?_
      refine r_iload hC dX12_columnStands_250 rfl ?_
      refine r_callV hC (d_m_runOf hw) rfl kC12_runOf km12_249 kI12_runOf kS12_runOf kN12 dd_12_runOf ⟨Nat.le_of_ble_eq_true rfl, Nat.le_of_ble_eq_true rfl⟩ rfl (Nat.le_of_ble_eq_true rfl) dX12_columnStands_252 (fun r M' hp => ?_)
      obtain ⟨rfl, hw⟩ := hp
      try dsimp only at hw
      refine r_aload_n hC dX12_columnStands_255 rfl rfl ?_
      refine r_iload_n hC dX12_columnStands_256 rfl rfl ?_
      refine r_iload hC dX12_columnStands_257 rfl ?_
      refine r_callV hC (d_m_isSafe hw) rfl kC12_isSafe km12_369 kI12_isSafe kS12_isSafe kN12 dd_12_isSafe ⟨Nat.le_of_ble_eq_true rfl, Nat.le_of_ble_eq_true rfl⟩ rfl (Nat.le_of_ble_eq_true rfl) dX12_columnStands_259 (fun r M' hp => ?_)
      obtain ⟨rfl, a16, rfl, hw⟩ := hp
      try dsimp only at hw
      obtain ⟨o17, hw⟩ := hw
      obtain ⟨hwt, hwf⟩ := hw
      refine r_if_ne hC 282 dX12_columnStands_262 (by decide) o17.1 o17.2 (fun c19 => ?_) (fun c19 => ?_)
      · have hw := hwt c19
        refine r_iinc hC dX12_columnStands_282 rfl (by decide) ?_
        refine r_goto hC 218 dX12_columnStands_285 (by decide) ?_
        exact r_subk (hX218 _ _ hw) ⟨rfl, rfl, rfl, rfl, trivial⟩
      · have hw := hwf c19
        refine r_aload_n hC dX12_columnStands_265 rfl rfl ?_
        refine r_getR hC 55 rfl (by decide) kf12_134 rfl rfl dX12_columnStands_266 ?_
        refine r_iload_n hC dX12_columnStands_269 rfl rfl ?_
        refine r_iload_n hC dX12_columnStands_270 rfl rfl ?_
        obtain ⟨o20, hw⟩ := hw
        refine r_iast hC rfl o20.1.1 o20.1.2 (by decide) (by decide) o20.2.1 o20.2.2 dX12_columnStands_271 ?_
        replace hw := hw _ rfl
        refine r_aload_n hC dX12_columnStands_272 rfl rfl ?_
        refine r_getR hC 56 rfl (by decide) kf12_137 rfl rfl dX12_columnStands_273 ?_
        refine r_iload_n hC dX12_columnStands_276 rfl rfl ?_
        refine r_iload hC dX12_columnStands_277 rfl ?_
        obtain ⟨o22, hw⟩ := hw
        refine r_iast hC rfl o22.1.1 o22.1.2 (by decide) (by decide) o22.2.1 o22.2.2 dX12_columnStands_279 ?_
        replace hw := hw _ rfl
        refine r_iconst hC dX12_columnStands_280 ?_
        exact hQ _ _ _ _ dX12_columnStands_281 (by decide) (by decide) hw
def w_m_columnStands_L2 (Q : Int → Mem → Prop) (X206 : Int → Mem → Prop) (x1 : Int) (x3 : Int) (x4 : Int) (M : Mem) : Prop :=
  ∀ X : Int → Mem → Prop, (∀ (x4 : Int) (M : Mem), w_m_columnStands_B2 Q X206 x1 x3 X x4 M → X x4 M) → X x4 M
set_option maxRecDepth 100000 in
set_option maxHeartbeats 4000000 in
theorem s_m_columnStands_L2 {Q : Int → Mem → Prop} {X206 : Int → Mem → Prop} {x1 : Int} {x3 : Int} {x4 : Int} {M : Mem} (hC : rC p R s m args meth c cells slots D aC ad 5 cX12_columnStands RX12 5 120 (some .boolean)) (hQ : ∀ (pc : Nat) (L : List (Nat × RV)) (z : Int) (M : Mem), decode cX12_columnStands pc = .ok (.ireturn, 1) → 0 ≤ z → z ≤ 1 → Q z M → rG p l e R s m args below meth c cells slots Qs D aC ad 5 pc L [vI z] M) (hX206 : ∀ (x3 : Int) (M : Mem), X206 x3 M → rG p l e R s m args below meth c cells slots Qs D aC ad 5 206 [(0, vR 12), (1, vI x1), (3, vI x3)] [] M) (hw : w_m_columnStands_L2 Q X206 x1 x3 x4 M) : rG p l e R s m args below meth c cells slots Qs D aC ad 5 218 [(0, vR 12), (1, vI x1), (3, vI x3), (4, vI x4)] [] M := by
  unfold w_m_columnStands_L2 at hw
  exact hw (fun x4 M => rG p l e R s m args below meth c cells slots Qs D aC ad 5 218 [(0, vR 12), (1, vI x1), (3, vI x3), (4, vI x4)] [] M) (fun x4 M hb => s_m_columnStands_B2 hC hQ hX206 (fun _ _ h => h) hb)
def w_m_columnStands_B1 (Q : Int → Mem → Prop) (x1 : Int) (X206 : Int → Mem → Prop) (x3 : Int) (M : Mem) : Prop :=
  w_m_manyChoices M x1 (fun a1 => (-2147483648 ≤ x3 ∧ x3 ≤ 2147483647) ∧ ((-2147483648 ≤ a1 ∧ a1 ≤ 2147483647) ∧ ((a1 ≤ x3 → Q 1 M) ∧ (¬ (a1 ≤ x3) → w_m_columnStands_L2 Q X206 x1 x3 0 M))))
set_option maxRecDepth 100000 in
set_option maxHeartbeats 4000000 in
theorem s_m_columnStands_B1 {Q : Int → Mem → Prop} {x1 : Int} {X206 : Int → Mem → Prop} {x3 : Int} {M : Mem} (hC : rC p R s m args meth c cells slots D aC ad 5 cX12_columnStands RX12 5 120 (some .boolean)) (hQ : ∀ (pc : Nat) (L : List (Nat × RV)) (z : Int) (M : Mem), decode cX12_columnStands pc = .ok (.ireturn, 1) → 0 ≤ z → z ≤ 1 → Q z M → rG p l e R s m args below meth c cells slots Qs D aC ad 5 pc L [vI z] M) (hX206 : ∀ (x3 : Int) (M : Mem), X206 x3 M → rG p l e R s m args below meth c cells slots Qs D aC ad 5 206 [(0, vR 12), (1, vI x1), (3, vI x3)] [] M) (hw : w_m_columnStands_B1 Q x1 X206 x3 M) : rG p l e R s m args below meth c cells slots Qs D aC ad 5 206 [(0, vR 12), (1, vI x1), (3, vI x3)] [] M := by
  unfold w_m_columnStands_B1 at hw
  refine r_iload_n hC dX12_columnStands_206 rfl rfl ?_
  refine r_aload_n hC dX12_columnStands_207 rfl rfl ?_
  refine r_iload_n hC dX12_columnStands_208 rfl rfl ?_
  refine r_callV hC (d_m_manyChoices hw) rfl kC12_manyChoices km12_266 kI12_manyChoices kS12_manyChoices kN12 dd_12_manyChoices ⟨Nat.le_of_ble_eq_true rfl, Nat.le_of_ble_eq_true rfl⟩ rfl (Nat.le_of_ble_eq_true rfl) dX12_columnStands_209 (fun r M' hp => ?_)
  obtain ⟨rfl, a1, rfl, hw⟩ := hp
  try dsimp only at hw
  obtain ⟨o2, hw⟩ := hw
  obtain ⟨o3, hw⟩ := hw
  obtain ⟨hwt, hwf⟩ := hw
  refine r_icmp_ge hC 294 dX12_columnStands_212 (by decide) o2.1 o2.2 o3.1 o3.2 (fun c4 => ?_) (fun c4 => ?_)
  · have hw := hwt c4
    refine r_iconst hC dX12_columnStands_294 ?_
    exact hQ _ _ _ _ dX12_columnStands_295 (by decide) (by decide) hw
  · have hw := hwf c4
    refine r_iconst hC dX12_columnStands_215 ?_
    refine r_istore hC dX12_columnStands_216 (by decide) ?_
    exact r_subk (s_m_columnStands_L2 hC hQ hX206 hw) ⟨rfl, rfl, rfl, rfl, trivial⟩
def w_m_columnStands_L1 (Q : Int → Mem → Prop) (x1 : Int) (x3 : Int) (M : Mem) : Prop :=
  ∀ X : Int → Mem → Prop, (∀ (x3 : Int) (M : Mem), w_m_columnStands_B1 Q x1 X x3 M → X x3 M) → X x3 M
set_option maxRecDepth 100000 in
set_option maxHeartbeats 4000000 in
theorem s_m_columnStands_L1 {Q : Int → Mem → Prop} {x1 : Int} {x3 : Int} {M : Mem} (hC : rC p R s m args meth c cells slots D aC ad 5 cX12_columnStands RX12 5 120 (some .boolean)) (hQ : ∀ (pc : Nat) (L : List (Nat × RV)) (z : Int) (M : Mem), decode cX12_columnStands pc = .ok (.ireturn, 1) → 0 ≤ z → z ≤ 1 → Q z M → rG p l e R s m args below meth c cells slots Qs D aC ad 5 pc L [vI z] M) (hw : w_m_columnStands_L1 Q x1 x3 M) : rG p l e R s m args below meth c cells slots Qs D aC ad 5 206 [(0, vR 12), (1, vI x1), (3, vI x3)] [] M := by
  unfold w_m_columnStands_L1 at hw
  exact hw (fun x3 M => rG p l e R s m args below meth c cells slots Qs D aC ad 5 206 [(0, vR 12), (1, vI x1), (3, vI x3)] [] M) (fun x3 M hb => s_m_columnStands_B1 hC hQ (fun _ _ h => h) hb)
def w_m_columnStands_j2 (Q : Int → Mem → Prop) (X12 : Int → Mem → Prop) (x1 : Int) (x2 : Int) (x3 : Int) (s1 : Int) (s2 : Int) (M : Mem) : Prop :=
  (0 ≤ s1 + s2 ∧ s1 + s2 ≤ 3000) ∧ (∀ M2 : Mem, M2 = mset M 12 23 (s1 + s2) → X12 (x3 + 1) M2)
set_option maxRecDepth 100000 in
set_option maxHeartbeats 4000000 in
theorem s_m_columnStands_j2 {Q : Int → Mem → Prop} {X12 : Int → Mem → Prop} {x1 : Int} {x2 : Int} {x3 : Int} {s1 : Int} {s2 : Int} {M : Mem} (hC : rC p R s m args meth c cells slots D aC ad 5 cX12_columnStands RX12 5 120 (some .boolean)) (hQ : ∀ (pc : Nat) (L : List (Nat × RV)) (z : Int) (M : Mem), decode cX12_columnStands pc = .ok (.ireturn, 1) → 0 ≤ z → z ≤ 1 → Q z M → rG p l e R s m args below meth c cells slots Qs D aC ad 5 pc L [vI z] M) (hX12 : ∀ (x3 : Int) (M : Mem), X12 x3 M → rG p l e R s m args below meth c cells slots Qs D aC ad 5 12 [(0, vR 12), (1, vI x1), (2, vI x2), (3, vI x3)] [] M) (hw : w_m_columnStands_j2 Q X12 x1 x2 x3 s1 s2 M) : rG p l e R s m args below meth c cells slots Qs D aC ad 5 109 [(0, vR 12), (1, vI x1), (2, vI x2), (3, vI x3)] [vI s2, vI s1, vR 12] M := by
  unfold w_m_columnStands_j2 at hw
  refine r_iadd hC dX12_columnStands_109 ?_
  obtain ⟨o1, hw⟩ := hw
  refine r_putI hC 23 rfl (by decide) kf12_236 rfl rfl o1.1 o1.2 dX12_columnStands_110 ?_
  replace hw := hw _ rfl
  refine r_iinc hC dX12_columnStands_113 rfl (by decide) ?_
  refine r_goto hC 12 dX12_columnStands_116 (by decide) ?_
  exact r_subk (hX12 _ _ hw) ⟨rfl, rfl, rfl, rfl, trivial⟩
def w_m_columnStands_j1 (Q : Int → Mem → Prop) (X12 : Int → Mem → Prop) (x1 : Int) (x2 : Int) (x3 : Int) (x4 : Int) (s1 : Int) (s2 : Int) (M : Mem) : Prop :=
  (0 ≤ s1 + s2 ∧ s1 + s2 ≤ 3000) ∧ (∀ M2 : Mem, M2 = mset M 12 22 (s1 + s2) → ∀ a3 : Int, a3 = M2 12 23 → 0 ≤ a3 → a3 ≤ 3000 → (-2147483648 ≤ x4 ∧ x4 ≤ 2147483647) ∧ ((x4 = 0 → w_m_columnStands_j2 Q X12 x1 x2 x3 a3 0 M2) ∧ (¬ (x4 = 0) → (0 ≤ x3 ∧ x3 < 6) ∧ (∀ a9 : Int, a9 = M2 91 x3 → 0 ≤ a9 → a9 ≤ 1 → (¬ (a9 = 1) → w_m_columnStands_j2 Q X12 x1 x2 x3 a3 0 M2) ∧ (a9 = 1 → (0 ≤ x3 ∧ x3 < 6) ∧ (∀ a15 : Int, a15 = M2 92 x3 → 0 ≤ a15 → a15 ≤ 500 → w_m_columnStands_j2 Q X12 x1 x2 x3 a3 a15 M2))))))
set_option maxRecDepth 100000 in
set_option maxHeartbeats 4000000 in
theorem s_m_columnStands_j1 {Q : Int → Mem → Prop} {X12 : Int → Mem → Prop} {x1 : Int} {x2 : Int} {x3 : Int} {x4 : Int} {s1 : Int} {s2 : Int} {M : Mem} (hC : rC p R s m args meth c cells slots D aC ad 5 cX12_columnStands RX12 5 120 (some .boolean)) (hQ : ∀ (pc : Nat) (L : List (Nat × RV)) (z : Int) (M : Mem), decode cX12_columnStands pc = .ok (.ireturn, 1) → 0 ≤ z → z ≤ 1 → Q z M → rG p l e R s m args below meth c cells slots Qs D aC ad 5 pc L [vI z] M) (hX12 : ∀ (x3 : Int) (M : Mem), X12 x3 M → rG p l e R s m args below meth c cells slots Qs D aC ad 5 12 [(0, vR 12), (1, vI x1), (2, vI x2), (3, vI x3)] [] M) (hw : w_m_columnStands_j1 Q X12 x1 x2 x3 x4 s1 s2 M) : rG p l e R s m args below meth c cells slots Qs D aC ad 5 75 [(0, vR 12), (1, vI x1), (2, vI x2), (3, vI x3), (4, vI x4)] [vI s2, vI s1, vR 12] M := by
  unfold w_m_columnStands_j1 at hw
  refine r_iadd hC dX12_columnStands_75 ?_
  obtain ⟨o1, hw⟩ := hw
  refine r_putI hC 22 rfl (by decide) kf12_229 rfl rfl o1.1 o1.2 dX12_columnStands_76 ?_
  replace hw := hw _ rfl
  refine r_aload_n hC dX12_columnStands_79 rfl rfl ?_
  refine r_dup hC dX12_columnStands_80 rfl ?_
  refine r_getI hC 23 rfl (by decide) kf12_236 rfl rfl dX12_columnStands_81 (fun b4 b4' => ?_)
  replace hw := hw _ rfl b4 b4'
  refine r_iload hC dX12_columnStands_84 rfl ?_
  obtain ⟨o5, hw⟩ := hw
  obtain ⟨hwt, hwf⟩ := hw
  refine r_if_eq hC 108 dX12_columnStands_86 (by decide) o5.1 o5.2 (fun c7 => ?_) (fun c7 => ?_)
  · have hw := hwt c7
    refine r_iconst hC dX12_columnStands_108 ?_
    exact r_subk (s_m_columnStands_j2 hC hQ hX12 hw) ⟨rfl, rfl, rfl, rfl, trivial⟩
  · have hw := hwf c7
    refine r_aload_n hC dX12_columnStands_89 rfl rfl ?_
    refine r_getR hC 52 rfl (by decide) kf12_125 rfl rfl dX12_columnStands_90 ?_
    refine r_iload_n hC dX12_columnStands_93 rfl rfl ?_
    obtain ⟨o8, hw⟩ := hw
    refine r_iald hC rfl o8.1 o8.2 (by decide) (by decide) dX12_columnStands_94 (fun b10 b10' => ?_)
    replace hw := hw _ rfl b10 b10'
    refine r_iconst hC dX12_columnStands_95 ?_
    obtain ⟨hwt, hwf⟩ := hw
    refine r_icmp_ne hC 108 dX12_columnStands_96 (by decide) (by omega) (by omega) (by decide) (by decide) (fun c13 => ?_) (fun c13 => ?_)
    · have hw := hwt c13
      refine r_iconst hC dX12_columnStands_108 ?_
      exact r_subk (s_m_columnStands_j2 hC hQ hX12 hw) ⟨rfl, rfl, rfl, rfl, trivial⟩
    · have hw := hwf c13
      refine r_aload_n hC dX12_columnStands_99 rfl rfl ?_
      refine r_getR hC 53 rfl (by decide) kf12_128 rfl rfl dX12_columnStands_100 ?_
      refine r_iload_n hC dX12_columnStands_103 rfl rfl ?_
      obtain ⟨o14, hw⟩ := hw
      refine r_iald hC rfl o14.1 o14.2 (by decide) (by decide) dX12_columnStands_104 (fun b16 b16' => ?_)
      replace hw := hw _ rfl b16 b16'
      refine r_goto hC 109 dX12_columnStands_105 (by decide) ?_
      exact r_subk (s_m_columnStands_j2 hC hQ hX12 hw) ⟨rfl, rfl, rfl, rfl, trivial⟩
def w_m_columnStands_j0 (Q : Int → Mem → Prop) (X12 : Int → Mem → Prop) (x1 : Int) (x2 : Int) (x3 : Int) (s0 : Int) (M : Mem) : Prop :=
  ∀ a1 : Int, a1 = M 12 22 → 0 ≤ a1 → a1 ≤ 3000 → (-2147483648 ≤ s0 ∧ s0 ≤ 2147483647) ∧ ((s0 = 0 → w_m_columnStands_j1 Q X12 x1 x2 x3 s0 a1 0 M) ∧ (¬ (s0 = 0) → (0 ≤ x3 ∧ x3 < 6) ∧ (∀ a7 : Int, a7 = M 91 x3 → 0 ≤ a7 → a7 ≤ 1 → (¬ (a7 = 0) → w_m_columnStands_j1 Q X12 x1 x2 x3 s0 a1 0 M) ∧ (a7 = 0 → (0 ≤ x3 ∧ x3 < 6) ∧ (∀ a13 : Int, a13 = M 92 x3 → 0 ≤ a13 → a13 ≤ 500 → w_m_columnStands_j1 Q X12 x1 x2 x3 s0 a1 a13 M)))))
set_option maxRecDepth 100000 in
set_option maxHeartbeats 4000000 in
theorem s_m_columnStands_j0 {Q : Int → Mem → Prop} {X12 : Int → Mem → Prop} {x1 : Int} {x2 : Int} {x3 : Int} {s0 : Int} {M : Mem} (hC : rC p R s m args meth c cells slots D aC ad 5 cX12_columnStands RX12 5 120 (some .boolean)) (hQ : ∀ (pc : Nat) (L : List (Nat × RV)) (z : Int) (M : Mem), decode cX12_columnStands pc = .ok (.ireturn, 1) → 0 ≤ z → z ≤ 1 → Q z M → rG p l e R s m args below meth c cells slots Qs D aC ad 5 pc L [vI z] M) (hX12 : ∀ (x3 : Int) (M : Mem), X12 x3 M → rG p l e R s m args below meth c cells slots Qs D aC ad 5 12 [(0, vR 12), (1, vI x1), (2, vI x2), (3, vI x3)] [] M) (hw : w_m_columnStands_j0 Q X12 x1 x2 x3 s0 M) : rG p l e R s m args below meth c cells slots Qs D aC ad 5 44 [(0, vR 12), (1, vI x1), (2, vI x2), (3, vI x3)] [vI s0] M := by
  unfold w_m_columnStands_j0 at hw
  refine r_istore hC dX12_columnStands_44 (by decide) ?_
  refine r_aload_n hC dX12_columnStands_46 rfl rfl ?_
  refine r_dup hC dX12_columnStands_47 rfl ?_
  refine r_getI hC 22 rfl (by decide) kf12_229 rfl rfl dX12_columnStands_48 (fun b2 b2' => ?_)
  replace hw := hw _ rfl b2 b2'
  refine r_iload hC dX12_columnStands_51 rfl ?_
  obtain ⟨o3, hw⟩ := hw
  obtain ⟨hwt, hwf⟩ := hw
  refine r_if_eq hC 74 dX12_columnStands_53 (by decide) o3.1 o3.2 (fun c5 => ?_) (fun c5 => ?_)
  · have hw := hwt c5
    refine r_iconst hC dX12_columnStands_74 ?_
    exact r_subk (s_m_columnStands_j1 hC hQ hX12 hw) ⟨rfl, rfl, rfl, rfl, rfl, trivial⟩
  · have hw := hwf c5
    refine r_aload_n hC dX12_columnStands_56 rfl rfl ?_
    refine r_getR hC 52 rfl (by decide) kf12_125 rfl rfl dX12_columnStands_57 ?_
    refine r_iload_n hC dX12_columnStands_60 rfl rfl ?_
    obtain ⟨o6, hw⟩ := hw
    refine r_iald hC rfl o6.1 o6.2 (by decide) (by decide) dX12_columnStands_61 (fun b8 b8' => ?_)
    replace hw := hw _ rfl b8 b8'
    obtain ⟨hwt, hwf⟩ := hw
    refine r_if_ne hC 74 dX12_columnStands_62 (by decide) (by omega) (by omega) (fun c11 => ?_) (fun c11 => ?_)
    · have hw := hwt c11
      refine r_iconst hC dX12_columnStands_74 ?_
      exact r_subk (s_m_columnStands_j1 hC hQ hX12 hw) ⟨rfl, rfl, rfl, rfl, rfl, trivial⟩
    · have hw := hwf c11
      refine r_aload_n hC dX12_columnStands_65 rfl rfl ?_
      refine r_getR hC 53 rfl (by decide) kf12_128 rfl rfl dX12_columnStands_66 ?_
      refine r_iload_n hC dX12_columnStands_69 rfl rfl ?_
      obtain ⟨o12, hw⟩ := hw
      refine r_iald hC rfl o12.1 o12.2 (by decide) (by decide) dX12_columnStands_70 (fun b14 b14' => ?_)
      replace hw := hw _ rfl b14 b14'
      refine r_goto hC 75 dX12_columnStands_71 (by decide) ?_
      exact r_subk (s_m_columnStands_j1 hC hQ hX12 hw) ⟨rfl, rfl, rfl, rfl, rfl, trivial⟩
def w_m_columnStands_B0 (Q : Int → Mem → Prop) (x1 : Int) (x2 : Int) (X12 : Int → Mem → Prop) (x3 : Int) (M : Mem) : Prop :=
  ∀ a1 : Int, a1 = M 12 50 → 0 ≤ a1 → a1 ≤ 6 → (-2147483648 ≤ x3 ∧ x3 ≤ 2147483647) ∧ ((a1 ≤ x3 → (0 ≤ x1 ∧ x1 < 6) ∧ (∀ a7 : Int, a7 = M 94 x1 → 0 ≤ a7 → a7 ≤ 729 → w_m_manyChoices M x1 (fun a9 => (-2147483648 ≤ a9 ∧ a9 ≤ 2147483647) ∧ ((a9 ≤ a7 → w_m_columnStands_L1 Q x1 0 M) ∧ (¬ (a9 ≤ a7) → (0 ≤ x1 ∧ x1 < 6) ∧ (∀ a14 : Int, a14 = M 94 x1 → 0 ≤ a14 → a14 ≤ 729 → (0 ≤ (729 * x1) + a14 ∧ (729 * x1) + a14 < 4374) ∧ (∀ a17 : Int, a17 = M 82 ((729 * x1) + a14) → 0 ≤ a17 → a17 ≤ 1 → (a17 = 0 → w_m_columnStands_L1 Q x1 0 M) ∧ (¬ (a17 = 0) → (0 ≤ x1 ∧ x1 < 6) ∧ (∀ a23 : Int, a23 = M 95 x1 → 0 ≤ a23 → a23 ≤ 6 → ∀ a25 : Int, a25 = M 12 8 → 0 ≤ a25 → a25 ≤ 6 → (a25 ≤ a23 → w_m_columnStands_L1 Q x1 0 M) ∧ (¬ (a25 ≤ a23) → (0 ≤ x1 ∧ x1 < 6) ∧ (∀ a31 : Int, a31 = M 94 x1 → 0 ≤ a31 → a31 ≤ 729 → w_m_choose M x1 a31 (fun M34 => (0 ≤ x1 ∧ x1 < 6) ∧ (∀ a36 : Int, a36 = M34 95 x1 → 0 ≤ a36 → a36 ≤ 6 → w_m_runOf M34 x1 a36 (fun M39 => (0 ≤ x1 ∧ x1 < 6) ∧ (∀ a41 : Int, a41 = M39 95 x1 → 0 ≤ a41 → a41 ≤ 6 → w_m_isSafe M39 x1 a41 (fun a43 => (-2147483648 ≤ a43 ∧ a43 ≤ 2147483647) ∧ ((¬ (a43 = 0) → w_m_columnStands_L1 Q x1 0 M39) ∧ (a43 = 0 → Q 0 M39)))))))))))))))))) ∧ (¬ (a1 ≤ x3) → (-2147483648 ≤ bAnd (bShr x2 x3) 1 ∧ bAnd (bShr x2 x3) 1 ≤ 2147483647) ∧ ((¬ (bAnd (bShr x2 x3) 1 = 1) → w_m_columnStands_j0 Q X12 x1 x2 x3 0 M) ∧ (bAnd (bShr x2 x3) 1 = 1 → (0 ≤ x3 ∧ x3 < 6) ∧ (∀ a52 : Int, a52 = M 90 x3 → 0 ≤ a52 → a52 ≤ 5 → (-2147483648 ≤ x1 ∧ x1 ≤ 2147483647) ∧ ((¬ (a52 = x1) → w_m_columnStands_j0 Q X12 x1 x2 x3 0 M) ∧ (a52 = x1 → w_m_columnStands_j0 Q X12 x1 x2 x3 1 M)))))))
set_option maxRecDepth 100000 in
set_option maxHeartbeats 4000000 in
theorem s_m_columnStands_B0 {Q : Int → Mem → Prop} {x1 : Int} {x2 : Int} {X12 : Int → Mem → Prop} {x3 : Int} {M : Mem} (hC : rC p R s m args meth c cells slots D aC ad 5 cX12_columnStands RX12 5 120 (some .boolean)) (hQ : ∀ (pc : Nat) (L : List (Nat × RV)) (z : Int) (M : Mem), decode cX12_columnStands pc = .ok (.ireturn, 1) → 0 ≤ z → z ≤ 1 → Q z M → rG p l e R s m args below meth c cells slots Qs D aC ad 5 pc L [vI z] M) (hX12 : ∀ (x3 : Int) (M : Mem), X12 x3 M → rG p l e R s m args below meth c cells slots Qs D aC ad 5 12 [(0, vR 12), (1, vI x1), (2, vI x2), (3, vI x3)] [] M) (hw : w_m_columnStands_B0 Q x1 x2 X12 x3 M) : rG p l e R s m args below meth c cells slots Qs D aC ad 5 12 [(0, vR 12), (1, vI x1), (2, vI x2), (3, vI x3)] [] M := by
  unfold w_m_columnStands_B0 at hw
  refine r_iload_n hC dX12_columnStands_12 rfl rfl ?_
  refine r_aload_n hC dX12_columnStands_13 rfl rfl ?_
  refine r_getI hC 50 rfl (by decide) kf12_219 rfl rfl dX12_columnStands_14 (fun b2 b2' => ?_)
  replace hw := hw _ rfl b2 b2'
  obtain ⟨o3, hw⟩ := hw
  obtain ⟨hwt, hwf⟩ := hw
  refine r_icmp_ge hC 119 dX12_columnStands_17 (by decide) o3.1 o3.2 (by omega) (by omega) (fun c5 => ?_) (fun c5 => ?_)
  · have hw := hwt c5
    refine r_aload_n hC dX12_columnStands_119 rfl rfl ?_
    refine r_getR hC 55 rfl (by decide) kf12_134 rfl rfl dX12_columnStands_120 ?_
    refine r_iload_n hC dX12_columnStands_123 rfl rfl ?_
    obtain ⟨o6, hw⟩ := hw
    refine r_iald hC rfl o6.1 o6.2 (by decide) (by decide) dX12_columnStands_124 (fun b8 b8' => ?_)
    replace hw := hw _ rfl b8 b8'
    refine r_aload_n hC dX12_columnStands_125 rfl rfl ?_
    refine r_iload_n hC dX12_columnStands_126 rfl rfl ?_
    refine r_callV hC (d_m_manyChoices hw) rfl kC12_manyChoices km12_266 kI12_manyChoices kS12_manyChoices kN12 dd_12_manyChoices ⟨Nat.le_of_ble_eq_true rfl, Nat.le_of_ble_eq_true rfl⟩ rfl (Nat.le_of_ble_eq_true rfl) dX12_columnStands_127 (fun r M' hp => ?_)
    obtain ⟨rfl, a9, rfl, hw⟩ := hp
    try dsimp only at hw
    obtain ⟨o11, hw⟩ := hw
    obtain ⟨hwt, hwf⟩ := hw
    refine r_icmp_ge hC 204 dX12_columnStands_130 (by decide) (by omega) (by omega) o11.1 o11.2 (fun c12 => ?_) (fun c12 => ?_)
    · have hw := hwt c12
      refine r_iconst hC dX12_columnStands_204 ?_
      refine r_istore_n hC dX12_columnStands_205 rfl (by decide) ?_
      exact r_subk (s_m_columnStands_L1 hC hQ hw) ⟨rfl, rfl, rfl, trivial⟩
    · have hw := hwf c12
      refine r_aload_n hC dX12_columnStands_133 rfl rfl ?_
      refine r_getR hC 34 rfl (by decide) kf12_98 rfl rfl dX12_columnStands_134 ?_
      refine r_sipush hC dX12_columnStands_137 (by decide) ?_
      refine r_iload_n hC dX12_columnStands_140 rfl rfl ?_
      refine r_imul hC dX12_columnStands_141 ?_
      refine r_aload_n hC dX12_columnStands_142 rfl rfl ?_
      refine r_getR hC 55 rfl (by decide) kf12_134 rfl rfl dX12_columnStands_143 ?_
      refine r_iload_n hC dX12_columnStands_146 rfl rfl ?_
      obtain ⟨o13, hw⟩ := hw
      refine r_iald hC rfl o13.1 o13.2 (by decide) (by decide) dX12_columnStands_147 (fun b15 b15' => ?_)
      replace hw := hw _ rfl b15 b15'
      refine r_iadd hC dX12_columnStands_148 ?_
      obtain ⟨o16, hw⟩ := hw
      refine r_zald hC rfl o16.1 o16.2 (by decide) (by decide) dX12_columnStands_149 (fun b18 b18' => ?_)
      replace hw := hw _ rfl b18 b18'
      obtain ⟨hwt, hwf⟩ := hw
      refine r_if_eq hC 204 dX12_columnStands_150 (by decide) (by omega) (by omega) (fun c21 => ?_) (fun c21 => ?_)
      · have hw := hwt c21
        refine r_iconst hC dX12_columnStands_204 ?_
        refine r_istore_n hC dX12_columnStands_205 rfl (by decide) ?_
        exact r_subk (s_m_columnStands_L1 hC hQ hw) ⟨rfl, rfl, rfl, trivial⟩
      · have hw := hwf c21
        refine r_aload_n hC dX12_columnStands_153 rfl rfl ?_
        refine r_getR hC 56 rfl (by decide) kf12_137 rfl rfl dX12_columnStands_154 ?_
        refine r_iload_n hC dX12_columnStands_157 rfl rfl ?_
        obtain ⟨o22, hw⟩ := hw
        refine r_iald hC rfl o22.1 o22.2 (by decide) (by decide) dX12_columnStands_158 (fun b24 b24' => ?_)
        replace hw := hw _ rfl b24 b24'
        refine r_aload_n hC dX12_columnStands_159 rfl rfl ?_
        refine r_getI hC 8 rfl (by decide) kf12_173 rfl rfl dX12_columnStands_160 (fun b26 b26' => ?_)
        replace hw := hw _ rfl b26 b26'
        obtain ⟨hwt, hwf⟩ := hw
        refine r_icmp_ge hC 204 dX12_columnStands_163 (by decide) (by omega) (by omega) (by omega) (by omega) (fun c29 => ?_) (fun c29 => ?_)
        · have hw := hwt c29
          refine r_iconst hC dX12_columnStands_204 ?_
          refine r_istore_n hC dX12_columnStands_205 rfl (by decide) ?_
          exact r_subk (s_m_columnStands_L1 hC hQ hw) ⟨rfl, rfl, rfl, trivial⟩
        · have hw := hwf c29
          refine r_aload_n hC dX12_columnStands_166 rfl rfl ?_
          refine r_iload_n hC dX12_columnStands_167 rfl rfl ?_
          refine r_aload_n hC dX12_columnStands_168 rfl rfl ?_
          refine r_getR hC 55 rfl (by decide) kf12_134 rfl rfl dX12_columnStands_169 ?_
          refine r_iload_n hC dX12_columnStands_172 rfl rfl ?_
          obtain ⟨o30, hw⟩ := hw
          refine r_iald hC rfl o30.1 o30.2 (by decide) (by decide) dX12_columnStands_173 (fun b32 b32' => ?_)
          replace hw := hw _ rfl b32 b32'
          refine r_callV hC (d_m_choose hw) rfl kC12_choose km12_246 kI12_choose kS12_choose kN12 dd_12_choose ⟨Nat.le_of_ble_eq_true rfl, Nat.le_of_ble_eq_true rfl⟩ rfl (Nat.le_of_ble_eq_true rfl) dX12_columnStands_174 (fun r M' hp => ?_)
          obtain ⟨rfl, hw⟩ := hp
          try dsimp only at hw
          refine r_aload_n hC dX12_columnStands_177 rfl rfl ?_
          refine r_iload_n hC dX12_columnStands_178 rfl rfl ?_
          refine r_aload_n hC dX12_columnStands_179 rfl rfl ?_
          refine r_getR hC 56 rfl (by decide) kf12_137 rfl rfl dX12_columnStands_180 ?_
          refine r_iload_n hC dX12_columnStands_183 rfl rfl ?_
          obtain ⟨o35, hw⟩ := hw
          refine r_iald hC rfl o35.1 o35.2 (by decide) (by decide) dX12_columnStands_184 (fun b37 b37' => ?_)
          replace hw := hw _ rfl b37 b37'
          refine r_callV hC (d_m_runOf hw) rfl kC12_runOf km12_249 kI12_runOf kS12_runOf kN12 dd_12_runOf ⟨Nat.le_of_ble_eq_true rfl, Nat.le_of_ble_eq_true rfl⟩ rfl (Nat.le_of_ble_eq_true rfl) dX12_columnStands_185 (fun r M' hp => ?_)
          obtain ⟨rfl, hw⟩ := hp
          try dsimp only at hw
          refine r_aload_n hC dX12_columnStands_188 rfl rfl ?_
          refine r_iload_n hC dX12_columnStands_189 rfl rfl ?_
          refine r_aload_n hC dX12_columnStands_190 rfl rfl ?_
          refine r_getR hC 56 rfl (by decide) kf12_137 rfl rfl dX12_columnStands_191 ?_
          refine r_iload_n hC dX12_columnStands_194 rfl rfl ?_
          obtain ⟨o40, hw⟩ := hw
          refine r_iald hC rfl o40.1 o40.2 (by decide) (by decide) dX12_columnStands_195 (fun b42 b42' => ?_)
          replace hw := hw _ rfl b42 b42'
          refine r_callV hC (d_m_isSafe hw) rfl kC12_isSafe km12_369 kI12_isSafe kS12_isSafe kN12 dd_12_isSafe ⟨Nat.le_of_ble_eq_true rfl, Nat.le_of_ble_eq_true rfl⟩ rfl (Nat.le_of_ble_eq_true rfl) dX12_columnStands_196 (fun r M' hp => ?_)
          obtain ⟨rfl, a43, rfl, hw⟩ := hp
          try dsimp only at hw
          obtain ⟨o44, hw⟩ := hw
          obtain ⟨hwt, hwf⟩ := hw
          refine r_if_ne hC 204 dX12_columnStands_199 (by decide) o44.1 o44.2 (fun c46 => ?_) (fun c46 => ?_)
          · have hw := hwt c46
            refine r_iconst hC dX12_columnStands_204 ?_
            refine r_istore_n hC dX12_columnStands_205 rfl (by decide) ?_
            exact r_subk (s_m_columnStands_L1 hC hQ hw) ⟨rfl, rfl, rfl, trivial⟩
          · have hw := hwf c46
            refine r_iconst hC dX12_columnStands_202 ?_
            exact hQ _ _ _ _ dX12_columnStands_203 (by decide) (by decide) hw
  · have hw := hwf c5
    refine r_iload_n hC dX12_columnStands_20 rfl rfl ?_
    refine r_iload_n hC dX12_columnStands_21 rfl rfl ?_
    refine r_ishr hC dX12_columnStands_22 ?_
    refine r_iconst hC dX12_columnStands_23 ?_
    refine r_iand hC dX12_columnStands_24 ?_
    refine r_iconst hC dX12_columnStands_25 ?_
    obtain ⟨o48, hw⟩ := hw
    obtain ⟨hwt, hwf⟩ := hw
    refine r_icmp_ne hC 43 dX12_columnStands_26 (by decide) o48.1 o48.2 (by decide) (by decide) (fun c50 => ?_) (fun c50 => ?_)
    · have hw := hwt c50
      refine r_iconst hC dX12_columnStands_43 ?_
      exact r_subk (s_m_columnStands_j0 hC hQ hX12 hw) ⟨rfl, rfl, rfl, rfl, trivial⟩
    · have hw := hwf c50
      refine r_aload_n hC dX12_columnStands_29 rfl rfl ?_
      refine r_getR hC 51 rfl (by decide) kf12_122 rfl rfl dX12_columnStands_30 ?_
      refine r_iload_n hC dX12_columnStands_33 rfl rfl ?_
      obtain ⟨o51, hw⟩ := hw
      refine r_iald hC rfl o51.1 o51.2 (by decide) (by decide) dX12_columnStands_34 (fun b53 b53' => ?_)
      replace hw := hw _ rfl b53 b53'
      refine r_iload_n hC dX12_columnStands_35 rfl rfl ?_
      obtain ⟨o55, hw⟩ := hw
      obtain ⟨hwt, hwf⟩ := hw
      refine r_icmp_ne hC 43 dX12_columnStands_36 (by decide) (by omega) (by omega) o55.1 o55.2 (fun c56 => ?_) (fun c56 => ?_)
      · have hw := hwt c56
        refine r_iconst hC dX12_columnStands_43 ?_
        exact r_subk (s_m_columnStands_j0 hC hQ hX12 hw) ⟨rfl, rfl, rfl, rfl, trivial⟩
      · have hw := hwf c56
        refine r_iconst hC dX12_columnStands_39 ?_
        refine r_goto hC 44 dX12_columnStands_40 (by decide) ?_
        exact r_subk (s_m_columnStands_j0 hC hQ hX12 hw) ⟨rfl, rfl, rfl, rfl, trivial⟩
def w_m_columnStands_L0 (Q : Int → Mem → Prop) (x1 : Int) (x2 : Int) (x3 : Int) (M : Mem) : Prop :=
  ∀ X : Int → Mem → Prop, (∀ (x3 : Int) (M : Mem), w_m_columnStands_B0 Q x1 x2 X x3 M → X x3 M) → X x3 M
set_option maxRecDepth 100000 in
set_option maxHeartbeats 4000000 in
theorem s_m_columnStands_L0 {Q : Int → Mem → Prop} {x1 : Int} {x2 : Int} {x3 : Int} {M : Mem} (hC : rC p R s m args meth c cells slots D aC ad 5 cX12_columnStands RX12 5 120 (some .boolean)) (hQ : ∀ (pc : Nat) (L : List (Nat × RV)) (z : Int) (M : Mem), decode cX12_columnStands pc = .ok (.ireturn, 1) → 0 ≤ z → z ≤ 1 → Q z M → rG p l e R s m args below meth c cells slots Qs D aC ad 5 pc L [vI z] M) (hw : w_m_columnStands_L0 Q x1 x2 x3 M) : rG p l e R s m args below meth c cells slots Qs D aC ad 5 12 [(0, vR 12), (1, vI x1), (2, vI x2), (3, vI x3)] [] M := by
  unfold w_m_columnStands_L0 at hw
  exact hw (fun x3 M => rG p l e R s m args below meth c cells slots Qs D aC ad 5 12 [(0, vR 12), (1, vI x1), (2, vI x2), (3, vI x3)] [] M) (fun x3 M hb => s_m_columnStands_B0 hC hQ (fun _ _ h => h) hb)
def w_m_columnStands (M : Mem) (x1 : Int) (x2 : Int) (Q : Int → Mem → Prop) : Prop :=
  ∀ M2 : Mem, M2 = mset M 12 22 0 → ∀ M4 : Mem, M4 = mset M2 12 23 0 → w_m_columnStands_L0 Q x1 x2 0 M4
set_option maxRecDepth 100000 in
set_option maxHeartbeats 4000000 in
theorem s_m_columnStands {M : Mem} {x1 : Int} {x2 : Int} {Q : Int → Mem → Prop} (hC : rC p R s m args meth c cells slots D aC ad 5 cX12_columnStands RX12 5 120 (some .boolean)) (hQ : ∀ (pc : Nat) (L : List (Nat × RV)) (z : Int) (M : Mem), decode cX12_columnStands pc = .ok (.ireturn, 1) → 0 ≤ z → z ≤ 1 → Q z M → rG p l e R s m args below meth c cells slots Qs D aC ad 5 pc L [vI z] M) (hw : w_m_columnStands M x1 x2 Q) : rG p l e R s m args below meth c cells slots Qs D aC ad 5 0 [(0, vR 12), (1, vI x1), (2, vI x2)] [] M := by
  unfold w_m_columnStands at hw
  refine r_aload_n hC dX12_columnStands_0 rfl rfl ?_
  refine r_iconst hC dX12_columnStands_1 ?_
  refine r_putI hC 22 rfl (by decide) kf12_229 rfl rfl (by decide) (by decide) dX12_columnStands_2 ?_
  replace hw := hw _ rfl
  refine r_aload_n hC dX12_columnStands_5 rfl rfl ?_
  refine r_iconst hC dX12_columnStands_6 ?_
  refine r_putI hC 23 rfl (by decide) kf12_236 rfl rfl (by decide) (by decide) dX12_columnStands_7 ?_
  replace hw := hw _ rfl
  refine r_iconst hC dX12_columnStands_10 ?_
  refine r_istore_n hC dX12_columnStands_11 rfl (by decide) ?_
  exact r_subk (s_m_columnStands_L0 hC hQ hw) ⟨rfl, rfl, rfl, rfl, trivial⟩
set_option maxRecDepth 100000 in
set_option maxHeartbeats 4000000 in
theorem d_m_columnStands {l : Launch} {D : va_G} {aC : Nat → ClassId} {ad : Nat → Nat} {M : Mem} {x1 : Int} {x2 : Int} {Q : Int → Mem → Prop} (hw : w_m_columnStands M x1 x2 Q) : Does l D aC ad yX12_columnStands cX12_columnStands 5 (some .boolean) 5 120 [vR 12, vI x1, vI x2] M (pI Q) :=
  Does.of (by decide) (Nat.le_of_ble_eq_true rfl) (fun p e R s m args below meth c hC => r_subk (s_m_columnStands hC (fun pc L z M d z1 z2 h => r_zret hC d z1 z2 ⟨z, rfl, h⟩) hw) ⟨rfl, rfl, rfl, trivial⟩)
theorem dd_12_columnStands : yX12_columnStands.cls ≠ "java/lang/invoke/MethodHandle" ∧ yX12_columnStands.cls ≠ "java/lang/invoke/VarHandle" ∧ (parseMethodDescriptor yX12_columnStands.desc).map (fun d => d.parameters.length) = some 2 := by decide +kernel
/-- SoupSandModel.allStand -/
def w_m_allStand_j1 (Q : Int → Mem → Prop) (X4 : Int → Int → Mem → Prop) (x1 : Int) (x3 : Int) (x5 : Int) (M : Mem) : Prop :=
  (0 ≤ x5 ∧ x5 < 384) ∧ (∀ a2 : Int, a2 = M 96 x5 → 0 ≤ a2 → a2 ≤ 2 → (a2 = 2 → X4 0 (x3 + 1) M) ∧ (¬ (a2 = 2) → X4 1 (x3 + 1) M))
set_option maxRecDepth 100000 in
set_option maxHeartbeats 4000000 in
theorem s_m_allStand_j1 {Q : Int → Mem → Prop} {X4 : Int → Int → Mem → Prop} {x1 : Int} {x3 : Int} {x5 : Int} {M : Mem} (hC : rC p R s m args meth c cells slots D aC ad 6 cX12_allStand RX12 6 144 (some .boolean)) (hQ : ∀ (pc : Nat) (L : List (Nat × RV)) (z : Int) (M : Mem), decode cX12_allStand pc = .ok (.ireturn, 1) → 0 ≤ z → z ≤ 1 → Q z M → rG p l e R s m args below meth c cells slots Qs D aC ad 6 pc L [vI z] M) (hX4 : ∀ (x2 : Int) (x3 : Int) (M : Mem), X4 x2 x3 M → rG p l e R s m args below meth c cells slots Qs D aC ad 6 4 [(0, vR 12), (1, vI x1), (2, vI x2), (3, vI x3)] [] M) (hw : w_m_allStand_j1 Q X4 x1 x3 x5 M) : rG p l e R s m args below meth c cells slots Qs D aC ad 6 109 [(0, vR 12), (1, vI x1), (3, vI x3), (5, vI x5)] [] M := by
  unfold w_m_allStand_j1 at hw
  refine r_aload_n hC dX12_allStand_109 rfl rfl ?_
  refine r_getR hC 57 rfl (by decide) kf12_140 rfl rfl dX12_allStand_110 ?_
  refine r_iload hC dX12_allStand_113 rfl ?_
  obtain ⟨o1, hw⟩ := hw
  refine r_iald hC rfl o1.1 o1.2 (by decide) (by decide) dX12_allStand_115 (fun b3 b3' => ?_)
  replace hw := hw _ rfl b3 b3'
  refine r_iconst hC dX12_allStand_116 ?_
  obtain ⟨hwt, hwf⟩ := hw
  refine r_icmp_eq hC 124 dX12_allStand_117 (by decide) (by omega) (by omega) (by decide) (by decide) (fun c6 => ?_) (fun c6 => ?_)
  · have hw := hwt c6
    refine r_iconst hC dX12_allStand_124 ?_
    refine r_istore_n hC dX12_allStand_125 rfl (by decide) ?_
    refine r_iinc hC dX12_allStand_126 rfl (by decide) ?_
    refine r_goto hC 4 dX12_allStand_129 (by decide) ?_
    exact r_subk (hX4 _ _ _ hw) ⟨rfl, rfl, rfl, rfl, trivial⟩
  · have hw := hwf c6
    refine r_iconst hC dX12_allStand_120 ?_
    refine r_goto hC 125 dX12_allStand_121 (by decide) ?_
    refine r_istore_n hC dX12_allStand_125 rfl (by decide) ?_
    refine r_iinc hC dX12_allStand_126 rfl (by decide) ?_
    refine r_goto hC 4 dX12_allStand_129 (by decide) ?_
    exact r_subk (hX4 _ _ _ hw) ⟨rfl, rfl, rfl, rfl, trivial⟩
def w_m_allStand_j0 (Q : Int → Mem → Prop) (X4 : Int → Int → Mem → Prop) (x1 : Int) (x3 : Int) (x5 : Int) (s1 : Int) (s2 : Int) (M : Mem) : Prop :=
  ((0 ≤ s1 ∧ s1 < 384) ∧ (0 ≤ s2 ∧ s2 ≤ 2)) ∧ (∀ M2 : Mem, M2 = mset M 96 s1 s2 → w_m_allStand_j1 Q X4 x1 x3 x5 M2)
set_option maxRecDepth 100000 in
set_option maxHeartbeats 4000000 in
theorem s_m_allStand_j0 {Q : Int → Mem → Prop} {X4 : Int → Int → Mem → Prop} {x1 : Int} {x3 : Int} {x5 : Int} {s1 : Int} {s2 : Int} {M : Mem} (hC : rC p R s m args meth c cells slots D aC ad 6 cX12_allStand RX12 6 144 (some .boolean)) (hQ : ∀ (pc : Nat) (L : List (Nat × RV)) (z : Int) (M : Mem), decode cX12_allStand pc = .ok (.ireturn, 1) → 0 ≤ z → z ≤ 1 → Q z M → rG p l e R s m args below meth c cells slots Qs D aC ad 6 pc L [vI z] M) (hX4 : ∀ (x2 : Int) (x3 : Int) (M : Mem), X4 x2 x3 M → rG p l e R s m args below meth c cells slots Qs D aC ad 6 4 [(0, vR 12), (1, vI x1), (2, vI x2), (3, vI x3)] [] M) (hw : w_m_allStand_j0 Q X4 x1 x3 x5 s1 s2 M) : rG p l e R s m args below meth c cells slots Qs D aC ad 6 108 [(0, vR 12), (1, vI x1), (3, vI x3), (5, vI x5)] [vI s2, vI s1, vR 96] M := by
  unfold w_m_allStand_j0 at hw
  obtain ⟨o1, hw⟩ := hw
  refine r_iast hC rfl o1.1.1 o1.1.2 (by decide) (by decide) o1.2.1 o1.2.2 dX12_allStand_108 ?_
  replace hw := hw _ rfl
  exact r_subk (s_m_allStand_j1 hC hQ hX4 hw) ⟨rfl, rfl, rfl, rfl, trivial⟩
def w_m_allStand_B1 (Q : Int → Mem → Prop) (X4 : Int → Int → Mem → Prop) (x1 : Int) (x3 : Int) (M : Mem) (X20 : Int → Int → Prop) (x4 : Int) (x5 : Int) : Prop :=
  ∀ a1 : Int, a1 = M 12 50 → 0 ≤ a1 → a1 ≤ 6 → (-2147483648 ≤ x5 ∧ x5 ≤ 2147483647) ∧ ((a1 ≤ x5 → w_m_hasHouse M x3 (fun a6 => (-2147483648 ≤ a6 ∧ a6 ≤ 2147483647) ∧ ((a6 = 0 → w_m_allStand_j1 Q X4 x1 x3 ((64 * x3) + x4) M) ∧ (¬ (a6 = 0) → (0 ≤ (64 * x3) + x4 ∧ (64 * x3) + x4 < 384) ∧ (∀ a11 : Int, a11 = M 96 ((64 * x3) + x4) → 0 ≤ a11 → a11 ≤ 2 → (¬ (a11 = 0) → w_m_allStand_j1 Q X4 x1 x3 ((64 * x3) + x4) M) ∧ (a11 = 0 → w_m_columnStands M x3 x1 (fun a16 M17 => (-2147483648 ≤ a16 ∧ a16 ≤ 2147483647) ∧ ((a16 = 0 → w_m_allStand_j0 Q X4 x1 x3 ((64 * x3) + x4) ((64 * x3) + x4) 2 M17) ∧ (¬ (a16 = 0) → w_m_allStand_j0 Q X4 x1 x3 ((64 * x3) + x4) ((64 * x3) + x4) 1 M17))))))))) ∧ (¬ (a1 ≤ x5) → (0 ≤ x5 ∧ x5 < 6) ∧ (∀ a22 : Int, a22 = M 90 x5 → 0 ≤ a22 → a22 ≤ 5 → (-2147483648 ≤ x3 ∧ x3 ≤ 2147483647) ∧ ((¬ (a22 = x3) → X20 (bOr x4 0) (x5 + 1)) ∧ (a22 = x3 → X20 (bOr x4 (bAnd x1 (bShl 1 x5))) (x5 + 1))))))
set_option maxRecDepth 100000 in
set_option maxHeartbeats 4000000 in
theorem s_m_allStand_B1 {Q : Int → Mem → Prop} {X4 : Int → Int → Mem → Prop} {x1 : Int} {x3 : Int} {M : Mem} {X20 : Int → Int → Prop} {x4 : Int} {x5 : Int} (hC : rC p R s m args meth c cells slots D aC ad 6 cX12_allStand RX12 6 144 (some .boolean)) (hQ : ∀ (pc : Nat) (L : List (Nat × RV)) (z : Int) (M : Mem), decode cX12_allStand pc = .ok (.ireturn, 1) → 0 ≤ z → z ≤ 1 → Q z M → rG p l e R s m args below meth c cells slots Qs D aC ad 6 pc L [vI z] M) (hX4 : ∀ (x2 : Int) (x3 : Int) (M : Mem), X4 x2 x3 M → rG p l e R s m args below meth c cells slots Qs D aC ad 6 4 [(0, vR 12), (1, vI x1), (2, vI x2), (3, vI x3)] [] M) (hX20 : ∀ (x4 : Int) (x5 : Int), X20 x4 x5 → rG p l e R s m args below meth c cells slots Qs D aC ad 6 20 [(0, vR 12), (1, vI x1), (3, vI x3), (4, vI x4), (5, vI x5)] [] M) (hw : w_m_allStand_B1 Q X4 x1 x3 M X20 x4 x5) : rG p l e R s m args below meth c cells slots Qs D aC ad 6 20 [(0, vR 12), (1, vI x1), (3, vI x3), (4, vI x4), (5, vI x5)] [] M := by
  unfold w_m_allStand_B1 at hw
  refine r_iload hC dX12_allStand_20 rfl ?_
  refine r_aload_n hC dX12_allStand_22 rfl rfl ?_
  refine r_getI hC 50 rfl (by decide) kf12_219 rfl rfl dX12_allStand_23 (fun b2 b2' => ?_)
  replace hw := hw _ rfl b2 b2'
  obtain ⟨o3, hw⟩ := hw
  obtain ⟨hwt, hwf⟩ := hw
  refine r_icmp_ge hC 61 dX12_allStand_26 (by decide) o3.1 o3.2 (by omega) (by omega) (fun c5 => ?_) (fun c5 => ?_)
  · have hw := hwt c5
    refine r_bipush hC dX12_allStand_61 (by decide) ?_
    refine r_iload_n hC dX12_allStand_63 rfl rfl ?_
    refine r_imul hC dX12_allStand_64 ?_
    refine r_iload hC dX12_allStand_65 rfl ?_
    refine r_iadd hC dX12_allStand_67 ?_
    refine r_istore hC dX12_allStand_68 (by decide) ?_
    refine r_aload_n hC dX12_allStand_70 rfl rfl ?_
    refine r_iload_n hC dX12_allStand_71 rfl rfl ?_
    refine r_callV hC (d_m_hasHouse hw) rfl kC12_hasHouse km12_366 kI12_hasHouse kS12_hasHouse kN12 dd_12_hasHouse ⟨Nat.le_of_ble_eq_true rfl, Nat.le_of_ble_eq_true rfl⟩ rfl (Nat.le_of_ble_eq_true rfl) dX12_allStand_72 (fun r M' hp => ?_)
    obtain ⟨rfl, a6, rfl, hw⟩ := hp
    try dsimp only at hw
    obtain ⟨o7, hw⟩ := hw
    obtain ⟨hwt, hwf⟩ := hw
    refine r_if_eq hC 109 dX12_allStand_75 (by decide) o7.1 o7.2 (fun c9 => ?_) (fun c9 => ?_)
    · have hw := hwt c9
      exact r_subk (s_m_allStand_j1 hC hQ hX4 hw) ⟨rfl, rfl, rfl, rfl, trivial⟩
    · have hw := hwf c9
      refine r_aload_n hC dX12_allStand_78 rfl rfl ?_
      refine r_getR hC 57 rfl (by decide) kf12_140 rfl rfl dX12_allStand_79 ?_
      refine r_iload hC dX12_allStand_82 rfl ?_
      obtain ⟨o10, hw⟩ := hw
      refine r_iald hC rfl o10.1 o10.2 (by decide) (by decide) dX12_allStand_84 (fun b12 b12' => ?_)
      replace hw := hw _ rfl b12 b12'
      obtain ⟨hwt, hwf⟩ := hw
      refine r_if_ne hC 109 dX12_allStand_85 (by decide) (by omega) (by omega) (fun c15 => ?_) (fun c15 => ?_)
      · have hw := hwt c15
        exact r_subk (s_m_allStand_j1 hC hQ hX4 hw) ⟨rfl, rfl, rfl, rfl, trivial⟩
      · have hw := hwf c15
        refine r_aload_n hC dX12_allStand_88 rfl rfl ?_
        refine r_getR hC 57 rfl (by decide) kf12_140 rfl rfl dX12_allStand_89 ?_
        refine r_iload hC dX12_allStand_92 rfl ?_
        refine r_aload_n hC dX12_allStand_94 rfl rfl ?_
        refine r_iload_n hC dX12_allStand_95 rfl rfl ?_
        refine r_iload_n hC dX12_allStand_96 rfl rfl ?_
        refine r_callV hC (d_m_columnStands hw) rfl kC12_columnStands km12_372 kI12_columnStands kS12_columnStands kN12 dd_12_columnStands ⟨Nat.le_of_ble_eq_true rfl, Nat.le_of_ble_eq_true rfl⟩ rfl (Nat.le_of_ble_eq_true rfl) dX12_allStand_97 (fun r M' hp => ?_)
        obtain ⟨a16, rfl, hw⟩ := hp
        try dsimp only at hw
        obtain ⟨o18, hw⟩ := hw
        obtain ⟨hwt, hwf⟩ := hw
        refine r_if_eq hC 107 dX12_allStand_100 (by decide) o18.1 o18.2 (fun c20 => ?_) (fun c20 => ?_)
        · have hw := hwt c20
          refine r_iconst hC dX12_allStand_107 ?_
          exact r_subk (s_m_allStand_j0 hC hQ hX4 hw) ⟨rfl, rfl, rfl, rfl, trivial⟩
        · have hw := hwf c20
          refine r_iconst hC dX12_allStand_103 ?_
          refine r_goto hC 108 dX12_allStand_104 (by decide) ?_
          exact r_subk (s_m_allStand_j0 hC hQ hX4 hw) ⟨rfl, rfl, rfl, rfl, trivial⟩
  · have hw := hwf c5
    refine r_iload hC dX12_allStand_29 rfl ?_
    refine r_aload_n hC dX12_allStand_31 rfl rfl ?_
    refine r_getR hC 51 rfl (by decide) kf12_122 rfl rfl dX12_allStand_32 ?_
    refine r_iload hC dX12_allStand_35 rfl ?_
    obtain ⟨o21, hw⟩ := hw
    refine r_iald hC rfl o21.1 o21.2 (by decide) (by decide) dX12_allStand_37 (fun b23 b23' => ?_)
    replace hw := hw _ rfl b23 b23'
    refine r_iload_n hC dX12_allStand_38 rfl rfl ?_
    obtain ⟨o25, hw⟩ := hw
    obtain ⟨hwt, hwf⟩ := hw
    refine r_icmp_ne hC 51 dX12_allStand_39 (by decide) (by omega) (by omega) o25.1 o25.2 (fun c26 => ?_) (fun c26 => ?_)
    · have hw := hwt c26
      refine r_iconst hC dX12_allStand_51 ?_
      refine r_ior hC dX12_allStand_52 ?_
      refine r_istore hC dX12_allStand_53 (by decide) ?_
      refine r_iinc hC dX12_allStand_55 rfl (by decide) ?_
      refine r_goto hC 20 dX12_allStand_58 (by decide) ?_
      exact r_subk (hX20 _ _ hw) ⟨rfl, rfl, rfl, rfl, rfl, trivial⟩
    · have hw := hwf c26
      refine r_iload_n hC dX12_allStand_42 rfl rfl ?_
      refine r_iconst hC dX12_allStand_43 ?_
      refine r_iload hC dX12_allStand_44 rfl ?_
      refine r_ishl hC dX12_allStand_46 ?_
      refine r_iand hC dX12_allStand_47 ?_
      refine r_goto hC 52 dX12_allStand_48 (by decide) ?_
      refine r_ior hC dX12_allStand_52 ?_
      refine r_istore hC dX12_allStand_53 (by decide) ?_
      refine r_iinc hC dX12_allStand_55 rfl (by decide) ?_
      refine r_goto hC 20 dX12_allStand_58 (by decide) ?_
      exact r_subk (hX20 _ _ hw) ⟨rfl, rfl, rfl, rfl, rfl, trivial⟩
def w_m_allStand_L1 (Q : Int → Mem → Prop) (X4 : Int → Int → Mem → Prop) (x1 : Int) (x3 : Int) (M : Mem) (x4 : Int) (x5 : Int) : Prop :=
  ∀ X : Int → Int → Prop, (∀ (x4 : Int) (x5 : Int), w_m_allStand_B1 Q X4 x1 x3 M X x4 x5 → X x4 x5) → X x4 x5
set_option maxRecDepth 100000 in
set_option maxHeartbeats 4000000 in
theorem s_m_allStand_L1 {Q : Int → Mem → Prop} {X4 : Int → Int → Mem → Prop} {x1 : Int} {x3 : Int} {M : Mem} {x4 : Int} {x5 : Int} (hC : rC p R s m args meth c cells slots D aC ad 6 cX12_allStand RX12 6 144 (some .boolean)) (hQ : ∀ (pc : Nat) (L : List (Nat × RV)) (z : Int) (M : Mem), decode cX12_allStand pc = .ok (.ireturn, 1) → 0 ≤ z → z ≤ 1 → Q z M → rG p l e R s m args below meth c cells slots Qs D aC ad 6 pc L [vI z] M) (hX4 : ∀ (x2 : Int) (x3 : Int) (M : Mem), X4 x2 x3 M → rG p l e R s m args below meth c cells slots Qs D aC ad 6 4 [(0, vR 12), (1, vI x1), (2, vI x2), (3, vI x3)] [] M) (hw : w_m_allStand_L1 Q X4 x1 x3 M x4 x5) : rG p l e R s m args below meth c cells slots Qs D aC ad 6 20 [(0, vR 12), (1, vI x1), (3, vI x3), (4, vI x4), (5, vI x5)] [] M := by
  unfold w_m_allStand_L1 at hw
  exact hw (fun x4 x5 => rG p l e R s m args below meth c cells slots Qs D aC ad 6 20 [(0, vR 12), (1, vI x1), (3, vI x3), (4, vI x4), (5, vI x5)] [] M) (fun x4 x5 hb => s_m_allStand_B1 hC hQ hX4 (fun _ _ h => h) hb)
def w_m_allStand_B0 (Q : Int → Mem → Prop) (x1 : Int) (X4 : Int → Int → Mem → Prop) (x2 : Int) (x3 : Int) (M : Mem) : Prop :=
  (-2147483648 ≤ x3 ∧ x3 ≤ 2147483647) ∧ ((6 ≤ x3 → (0 ≤ x2 ∧ x2 ≤ 1) ∧ (Q x2 M)) ∧ (¬ (6 ≤ x3) → (-2147483648 ≤ x2 ∧ x2 ≤ 2147483647) ∧ ((x2 = 0 → (0 ≤ x2 ∧ x2 ≤ 1) ∧ (Q x2 M)) ∧ (¬ (x2 = 0) → w_m_allStand_L1 Q X4 x1 x3 M 0 0))))
set_option maxRecDepth 100000 in
set_option maxHeartbeats 4000000 in
theorem s_m_allStand_B0 {Q : Int → Mem → Prop} {x1 : Int} {X4 : Int → Int → Mem → Prop} {x2 : Int} {x3 : Int} {M : Mem} (hC : rC p R s m args meth c cells slots D aC ad 6 cX12_allStand RX12 6 144 (some .boolean)) (hQ : ∀ (pc : Nat) (L : List (Nat × RV)) (z : Int) (M : Mem), decode cX12_allStand pc = .ok (.ireturn, 1) → 0 ≤ z → z ≤ 1 → Q z M → rG p l e R s m args below meth c cells slots Qs D aC ad 6 pc L [vI z] M) (hX4 : ∀ (x2 : Int) (x3 : Int) (M : Mem), X4 x2 x3 M → rG p l e R s m args below meth c cells slots Qs D aC ad 6 4 [(0, vR 12), (1, vI x1), (2, vI x2), (3, vI x3)] [] M) (hw : w_m_allStand_B0 Q x1 X4 x2 x3 M) : rG p l e R s m args below meth c cells slots Qs D aC ad 6 4 [(0, vR 12), (1, vI x1), (2, vI x2), (3, vI x3)] [] M := by
  unfold w_m_allStand_B0 at hw
  refine r_iload_n hC dX12_allStand_4 rfl rfl ?_
  refine r_bipush hC dX12_allStand_5 (by decide) ?_
  obtain ⟨o1, hw⟩ := hw
  obtain ⟨hwt, hwf⟩ := hw
  refine r_icmp_ge hC 132 dX12_allStand_7 (by decide) o1.1 o1.2 (by decide) (by decide) (fun c3 => ?_) (fun c3 => ?_)
  · have hw := hwt c3
    refine r_iload_n hC dX12_allStand_132 rfl rfl ?_
    obtain ⟨o4, hw⟩ := hw
    exact hQ _ _ _ _ dX12_allStand_133 o4.1 o4.2 hw
  · have hw := hwf c3
    refine r_iload_n hC dX12_allStand_10 rfl rfl ?_
    obtain ⟨o5, hw⟩ := hw
    obtain ⟨hwt, hwf⟩ := hw
    refine r_if_eq hC 132 dX12_allStand_11 (by decide) o5.1 o5.2 (fun c7 => ?_) (fun c7 => ?_)
    · have hw := hwt c7
      refine r_iload_n hC dX12_allStand_132 rfl rfl ?_
      obtain ⟨o8, hw⟩ := hw
      exact hQ _ _ _ _ dX12_allStand_133 o8.1 o8.2 hw
    · have hw := hwf c7
      refine r_iconst hC dX12_allStand_14 ?_
      refine r_istore hC dX12_allStand_15 (by decide) ?_
      refine r_iconst hC dX12_allStand_17 ?_
      refine r_istore hC dX12_allStand_18 (by decide) ?_
      exact r_subk (s_m_allStand_L1 hC hQ hX4 hw) ⟨rfl, rfl, rfl, rfl, rfl, trivial⟩
def w_m_allStand_L0 (Q : Int → Mem → Prop) (x1 : Int) (x2 : Int) (x3 : Int) (M : Mem) : Prop :=
  ∀ X : Int → Int → Mem → Prop, (∀ (x2 : Int) (x3 : Int) (M : Mem), w_m_allStand_B0 Q x1 X x2 x3 M → X x2 x3 M) → X x2 x3 M
set_option maxRecDepth 100000 in
set_option maxHeartbeats 4000000 in
theorem s_m_allStand_L0 {Q : Int → Mem → Prop} {x1 : Int} {x2 : Int} {x3 : Int} {M : Mem} (hC : rC p R s m args meth c cells slots D aC ad 6 cX12_allStand RX12 6 144 (some .boolean)) (hQ : ∀ (pc : Nat) (L : List (Nat × RV)) (z : Int) (M : Mem), decode cX12_allStand pc = .ok (.ireturn, 1) → 0 ≤ z → z ≤ 1 → Q z M → rG p l e R s m args below meth c cells slots Qs D aC ad 6 pc L [vI z] M) (hw : w_m_allStand_L0 Q x1 x2 x3 M) : rG p l e R s m args below meth c cells slots Qs D aC ad 6 4 [(0, vR 12), (1, vI x1), (2, vI x2), (3, vI x3)] [] M := by
  unfold w_m_allStand_L0 at hw
  exact hw (fun x2 x3 M => rG p l e R s m args below meth c cells slots Qs D aC ad 6 4 [(0, vR 12), (1, vI x1), (2, vI x2), (3, vI x3)] [] M) (fun x2 x3 M hb => s_m_allStand_B0 hC hQ (fun _ _ _ h => h) hb)
def w_m_allStand (M : Mem) (x1 : Int) (Q : Int → Mem → Prop) : Prop :=
  w_m_allStand_L0 Q x1 1 0 M
set_option maxRecDepth 100000 in
set_option maxHeartbeats 4000000 in
theorem s_m_allStand {M : Mem} {x1 : Int} {Q : Int → Mem → Prop} (hC : rC p R s m args meth c cells slots D aC ad 6 cX12_allStand RX12 6 144 (some .boolean)) (hQ : ∀ (pc : Nat) (L : List (Nat × RV)) (z : Int) (M : Mem), decode cX12_allStand pc = .ok (.ireturn, 1) → 0 ≤ z → z ≤ 1 → Q z M → rG p l e R s m args below meth c cells slots Qs D aC ad 6 pc L [vI z] M) (hw : w_m_allStand M x1 Q) : rG p l e R s m args below meth c cells slots Qs D aC ad 6 0 [(0, vR 12), (1, vI x1)] [] M := by
  unfold w_m_allStand at hw
  refine r_iconst hC dX12_allStand_0 ?_
  refine r_istore_n hC dX12_allStand_1 rfl (by decide) ?_
  refine r_iconst hC dX12_allStand_2 ?_
  refine r_istore_n hC dX12_allStand_3 rfl (by decide) ?_
  exact r_subk (s_m_allStand_L0 hC hQ hw) ⟨rfl, rfl, rfl, rfl, trivial⟩
set_option maxRecDepth 100000 in
set_option maxHeartbeats 4000000 in
theorem d_m_allStand {l : Launch} {D : va_G} {aC : Nat → ClassId} {ad : Nat → Nat} {M : Mem} {x1 : Int} {Q : Int → Mem → Prop} (hw : w_m_allStand M x1 Q) : Does l D aC ad yX12_allStand cX12_allStand 6 (some .boolean) 6 144 [vR 12, vI x1] M (pI Q) :=
  Does.of (by decide) (Nat.le_of_ble_eq_true rfl) (fun p e R s m args below meth c hC => r_subk (s_m_allStand hC (fun pc L z M d z1 z2 h => r_zret hC d z1 z2 ⟨z, rfl, h⟩) hw) ⟨rfl, rfl, trivial⟩)
theorem dd_12_allStand : yX12_allStand.cls ≠ "java/lang/invoke/MethodHandle" ∧ yX12_allStand.cls ≠ "java/lang/invoke/VarHandle" ∧ (parseMethodDescriptor yX12_allStand.desc).map (fun d => d.parameters.length) = some 1 := by decide +kernel
theorem dd_12_findAllKept : yX12_findAllKept.cls ≠ "java/lang/invoke/MethodHandle" ∧ yX12_findAllKept.cls ≠ "java/lang/invoke/VarHandle" ∧ (parseMethodDescriptor yX12_findAllKept.desc).map (fun d => d.parameters.length) = some 0 := by decide +kernel
theorem dd_12_lookAnew : yX12_lookAnew.cls ≠ "java/lang/invoke/MethodHandle" ∧ yX12_lookAnew.cls ≠ "java/lang/invoke/VarHandle" ∧ (parseMethodDescriptor yX12_lookAnew.desc).map (fun d => d.parameters.length) = some 0 := by decide +kernel
/-- SoupSandModel.stands -/
def w_m_stands (M : Mem) (x1 : Int) (Q : Int → Mem → Prop) : Prop :=
  (-2147483648 ≤ x1 ∧ x1 ≤ 2147483647) ∧ (∀ a2 : Int, a2 = M 12 50 → 0 ≤ a2 → a2 ≤ 6 → (-2147483648 ≤ (bShl 1 a2) - 1 ∧ (bShl 1 a2) - 1 ≤ 2147483647) ∧ (w_m_in M x1 0 ((bShl 1 a2) - 1) (fun a5 => (-2147483648 ≤ a5 ∧ a5 ≤ 2147483647) ∧ ((¬ (a5 = 0) → w_m_findAllKept M (fun a9 M10 => (-2147483648 ≤ a9 ∧ a9 ≤ 2147483647) ∧ ((¬ (a9 = 0) → w_m_lookAnew M10 (fun M15 => w_m_allStand M15 x1 (fun a16 M17 => (-2147483648 ≤ a16 ∧ a16 ≤ 2147483647) ∧ ((a16 = 0 → Q 0 M17) ∧ (¬ (a16 = 0) → Q 1 M17))))) ∧ (a9 = 0 → Q (-1005) M10)))) ∧ (a5 = 0 → Q (-1001) M)))))
set_option maxRecDepth 100000 in
set_option maxHeartbeats 4000000 in
theorem s_m_stands {M : Mem} {x1 : Int} {Q : Int → Mem → Prop} (hC : rC p R s m args meth c cells slots D aC ad 2 cX12_stands RX12 9 211 (some .int)) (hQ : ∀ (pc : Nat) (L : List (Nat × RV)) (z : Int) (M : Mem), decode cX12_stands pc = .ok (.ireturn, 1) → Q z M → rG p l e R s m args below meth c cells slots Qs D aC ad 2 pc L [vI z] M) (hw : w_m_stands M x1 Q) : rG p l e R s m args below meth c cells slots Qs D aC ad 2 0 [(0, vR 12), (1, vI x1)] [] M := by
  unfold w_m_stands at hw
  refine r_iload_n hC dX12_stands_0 rfl rfl ?_
  obtain ⟨o1, hw⟩ := hw
  refine r_i2l hC dX12_stands_1 o1.1 o1.2 ?_
  refine r_lconst hC 0 dX12_stands_2 (by decide) ?_
  refine r_iconst hC dX12_stands_3 ?_
  refine r_aload_n hC dX12_stands_4 rfl rfl ?_
  refine r_getI hC 50 rfl (by decide) kf12_219 rfl rfl dX12_stands_5 (fun b3 b3' => ?_)
  replace hw := hw _ rfl b3 b3'
  refine r_ishl hC dX12_stands_8 ?_
  refine r_iconst hC dX12_stands_9 ?_
  refine r_isub hC dX12_stands_10 ?_
  obtain ⟨o4, hw⟩ := hw
  refine r_i2l hC dX12_stands_11 o4.1 o4.2 ?_
  refine r_callS hC (d_m_in hw) kC12_in km12_165 kT12_in kN12 dd_12_in ⟨Nat.le_of_ble_eq_true rfl, Nat.le_of_ble_eq_true rfl⟩ rfl (Nat.le_of_ble_eq_true rfl) dX12_stands_12 (fun r M' hp => ?_)
  obtain ⟨rfl, a5, rfl, hw⟩ := hp
  try dsimp only at hw
  obtain ⟨o6, hw⟩ := hw
  obtain ⟨hwt, hwf⟩ := hw
  refine r_if_ne hC 22 dX12_stands_15 (by decide) o6.1 o6.2 (fun c8 => ?_) (fun c8 => ?_)
  · have hw := hwt c8
    refine r_aload_n hC dX12_stands_22 rfl rfl ?_
    refine r_callV hC (d_m_findAllKept hw) rfl kC12_findAllKept km12_375 kI12_findAllKept kS12_findAllKept kN12 dd_12_findAllKept ⟨Nat.le_of_ble_eq_true rfl, Nat.le_of_ble_eq_true rfl⟩ rfl (Nat.le_of_ble_eq_true rfl) dX12_stands_23 (fun r M' hp => ?_)
    obtain ⟨a9, rfl, hw⟩ := hp
    try dsimp only at hw
    obtain ⟨o11, hw⟩ := hw
    obtain ⟨hwt, hwf⟩ := hw
    refine r_if_ne hC 33 dX12_stands_26 (by decide) o11.1 o11.2 (fun c13 => ?_) (fun c13 => ?_)
    · have hw := hwt c13
      refine r_aload_n hC dX12_stands_33 rfl rfl ?_
      refine r_callV hC (d_m_lookAnew hw) rfl kC12_lookAnew km12_379 kI12_lookAnew kS12_lookAnew kN12 dd_12_lookAnew ⟨Nat.le_of_ble_eq_true rfl, Nat.le_of_ble_eq_true rfl⟩ rfl (Nat.le_of_ble_eq_true rfl) dX12_stands_34 (fun r M' hp => ?_)
      obtain ⟨rfl, hw⟩ := hp
      try dsimp only at hw
      refine r_aload_n hC dX12_stands_37 rfl rfl ?_
      refine r_iload_n hC dX12_stands_38 rfl rfl ?_
      refine r_callV hC (d_m_allStand hw) rfl kC12_allStand km12_382 kI12_allStand kS12_allStand kN12 dd_12_allStand ⟨Nat.le_of_ble_eq_true rfl, Nat.le_of_ble_eq_true rfl⟩ rfl (Nat.le_of_ble_eq_true rfl) dX12_stands_39 (fun r M' hp => ?_)
      obtain ⟨a16, rfl, hw⟩ := hp
      try dsimp only at hw
      obtain ⟨o18, hw⟩ := hw
      obtain ⟨hwt, hwf⟩ := hw
      refine r_if_eq hC 49 dX12_stands_42 (by decide) o18.1 o18.2 (fun c20 => ?_) (fun c20 => ?_)
      · have hw := hwt c20
        refine r_iconst hC dX12_stands_49 ?_
        exact hQ _ _ _ _ dX12_stands_50 hw
      · have hw := hwf c20
        refine r_iconst hC dX12_stands_45 ?_
        refine r_goto hC 50 dX12_stands_46 (by decide) ?_
        exact hQ _ _ _ _ dX12_stands_50 hw
    · have hw := hwf c13
      refine r_sipush hC dX12_stands_29 (by decide) ?_
      exact hQ _ _ _ _ dX12_stands_32 hw
  · have hw := hwf c8
    refine r_sipush hC dX12_stands_18 (by decide) ?_
    exact hQ _ _ _ _ dX12_stands_21 hw
set_option maxRecDepth 100000 in
set_option maxHeartbeats 4000000 in
theorem d_m_stands {l : Launch} {D : va_G} {aC : Nat → ClassId} {ad : Nat → Nat} {M : Mem} {x1 : Int} {Q : Int → Mem → Prop} (hw : w_m_stands M x1 Q) : Does l D aC ad yX12_stands cX12_stands 2 (some .int) 9 211 [vR 12, vI x1] M (pI Q) :=
  Does.of (by decide) (Nat.le_of_ble_eq_true rfl) (fun p e R s m args below meth c hC => r_subk (s_m_stands hC (fun pc L z M d h => r_iret hC d ⟨z, rfl, h⟩) hw) ⟨rfl, rfl, trivial⟩)
/-- SoupSandModel.priceOf -/
def w_m_priceOf_B0 (Q : Int → Prop) (x1 : Int) (M : Mem) (X4 : Int → Int → Prop) (x2 : Int) (x3 : Int) : Prop :=
  ∀ a1 : Int, a1 = M 12 50 → 0 ≤ a1 → a1 ≤ 6 → (-2147483648 ≤ x3 ∧ x3 ≤ 2147483647) ∧ ((a1 ≤ x3 → Q x2) ∧ (¬ (a1 ≤ x3) → (0 ≤ x3 ∧ x3 < 6) ∧ (∀ a7 : Int, a7 = M 93 x3 → 0 ≤ a7 → a7 ≤ 999 → X4 (x2 + ((bAnd (bShr x1 x3) 1) * a7)) (x3 + 1))))
set_option maxRecDepth 100000 in
set_option maxHeartbeats 4000000 in
theorem s_m_priceOf_B0 {Q : Int → Prop} {x1 : Int} {M : Mem} {X4 : Int → Int → Prop} {x2 : Int} {x3 : Int} (hC : rC p R s m args meth c cells slots D aC ad 4 cX12_priceOf RX12 0 0 (some .int)) (hQ : ∀ (pc : Nat) (L : List (Nat × RV)) (z : Int), decode cX12_priceOf pc = .ok (.ireturn, 1) → Q z → rG p l e R s m args below meth c cells slots Qs D aC ad 4 pc L [vI z] M) (hX4 : ∀ (x2 : Int) (x3 : Int), X4 x2 x3 → rG p l e R s m args below meth c cells slots Qs D aC ad 4 4 [(0, vR 12), (1, vI x1), (2, vI x2), (3, vI x3)] [] M) (hw : w_m_priceOf_B0 Q x1 M X4 x2 x3) : rG p l e R s m args below meth c cells slots Qs D aC ad 4 4 [(0, vR 12), (1, vI x1), (2, vI x2), (3, vI x3)] [] M := by
  unfold w_m_priceOf_B0 at hw
  refine r_iload_n hC dX12_priceOf_4 rfl rfl ?_
  refine r_aload_n hC dX12_priceOf_5 rfl rfl ?_
  refine r_getI hC 50 rfl (by decide) kf12_219 rfl rfl dX12_priceOf_6 (fun b2 b2' => ?_)
  replace hw := hw _ rfl b2 b2'
  obtain ⟨o3, hw⟩ := hw
  obtain ⟨hwt, hwf⟩ := hw
  refine r_icmp_ge hC 33 dX12_priceOf_9 (by decide) o3.1 o3.2 (by omega) (by omega) (fun c5 => ?_) (fun c5 => ?_)
  · have hw := hwt c5
    refine r_iload_n hC dX12_priceOf_33 rfl rfl ?_
    exact hQ _ _ _ dX12_priceOf_34 hw
  · have hw := hwf c5
    refine r_iload_n hC dX12_priceOf_12 rfl rfl ?_
    refine r_iload_n hC dX12_priceOf_13 rfl rfl ?_
    refine r_iload_n hC dX12_priceOf_14 rfl rfl ?_
    refine r_ishr hC dX12_priceOf_15 ?_
    refine r_iconst hC dX12_priceOf_16 ?_
    refine r_iand hC dX12_priceOf_17 ?_
    refine r_aload_n hC dX12_priceOf_18 rfl rfl ?_
    refine r_getR hC 54 rfl (by decide) kf12_131 rfl rfl dX12_priceOf_19 ?_
    refine r_iload_n hC dX12_priceOf_22 rfl rfl ?_
    obtain ⟨o6, hw⟩ := hw
    refine r_iald hC rfl o6.1 o6.2 (by decide) (by decide) dX12_priceOf_23 (fun b8 b8' => ?_)
    replace hw := hw _ rfl b8 b8'
    refine r_imul hC dX12_priceOf_24 ?_
    refine r_iadd hC dX12_priceOf_25 ?_
    refine r_istore_n hC dX12_priceOf_26 rfl (by decide) ?_
    refine r_iinc hC dX12_priceOf_27 rfl (by decide) ?_
    refine r_goto hC 4 dX12_priceOf_30 (by decide) ?_
    exact r_subk (hX4 _ _ hw) ⟨rfl, rfl, rfl, rfl, trivial⟩
def w_m_priceOf_L0 (Q : Int → Prop) (x1 : Int) (M : Mem) (x2 : Int) (x3 : Int) : Prop :=
  ∀ X : Int → Int → Prop, (∀ (x2 : Int) (x3 : Int), w_m_priceOf_B0 Q x1 M X x2 x3 → X x2 x3) → X x2 x3
set_option maxRecDepth 100000 in
set_option maxHeartbeats 4000000 in
theorem s_m_priceOf_L0 {Q : Int → Prop} {x1 : Int} {M : Mem} {x2 : Int} {x3 : Int} (hC : rC p R s m args meth c cells slots D aC ad 4 cX12_priceOf RX12 0 0 (some .int)) (hQ : ∀ (pc : Nat) (L : List (Nat × RV)) (z : Int), decode cX12_priceOf pc = .ok (.ireturn, 1) → Q z → rG p l e R s m args below meth c cells slots Qs D aC ad 4 pc L [vI z] M) (hw : w_m_priceOf_L0 Q x1 M x2 x3) : rG p l e R s m args below meth c cells slots Qs D aC ad 4 4 [(0, vR 12), (1, vI x1), (2, vI x2), (3, vI x3)] [] M := by
  unfold w_m_priceOf_L0 at hw
  exact hw (fun x2 x3 => rG p l e R s m args below meth c cells slots Qs D aC ad 4 4 [(0, vR 12), (1, vI x1), (2, vI x2), (3, vI x3)] [] M) (fun x2 x3 hb => s_m_priceOf_B0 hC hQ (fun _ _ h => h) hb)
def w_m_priceOf (M : Mem) (x1 : Int) (Q : Int → Prop) : Prop :=
  w_m_priceOf_L0 Q x1 M 0 0
set_option maxRecDepth 100000 in
set_option maxHeartbeats 4000000 in
theorem s_m_priceOf {M : Mem} {x1 : Int} {Q : Int → Prop} (hC : rC p R s m args meth c cells slots D aC ad 4 cX12_priceOf RX12 0 0 (some .int)) (hQ : ∀ (pc : Nat) (L : List (Nat × RV)) (z : Int), decode cX12_priceOf pc = .ok (.ireturn, 1) → Q z → rG p l e R s m args below meth c cells slots Qs D aC ad 4 pc L [vI z] M) (hw : w_m_priceOf M x1 Q) : rG p l e R s m args below meth c cells slots Qs D aC ad 4 0 [(0, vR 12), (1, vI x1)] [] M := by
  unfold w_m_priceOf at hw
  refine r_iconst hC dX12_priceOf_0 ?_
  refine r_istore_n hC dX12_priceOf_1 rfl (by decide) ?_
  refine r_iconst hC dX12_priceOf_2 ?_
  refine r_istore_n hC dX12_priceOf_3 rfl (by decide) ?_
  exact r_subk (s_m_priceOf_L0 hC hQ hw) ⟨rfl, rfl, rfl, rfl, trivial⟩
set_option maxRecDepth 100000 in
set_option maxHeartbeats 4000000 in
theorem d_m_priceOf {l : Launch} {D : va_G} {aC : Nat → ClassId} {ad : Nat → Nat} {M : Mem} {x1 : Int} {Q : Int → Prop} (hw : w_m_priceOf M x1 Q) : Does l D aC ad yX12_priceOf cX12_priceOf 4 (some .int) 0 0 [vR 12, vI x1] M (qI M Q) :=
  Does.of (by decide) (Nat.le_of_ble_eq_true rfl) (fun p e R s m args below meth c hC => r_subk (s_m_priceOf hC (fun pc L z d h => r_iret hC d ⟨rfl, ⟨z, rfl, h⟩⟩) hw) ⟨rfl, rfl, trivial⟩)
theorem dd_12_priceOf : yX12_priceOf.cls ≠ "java/lang/invoke/MethodHandle" ∧ yX12_priceOf.cls ≠ "java/lang/invoke/VarHandle" ∧ (parseMethodDescriptor yX12_priceOf.desc).map (fun d => d.parameters.length) = some 1 := by decide +kernel
/-- SoupSandModel.plan -/
def w_m_plan_j0 (Q : Int → Mem → Prop) (X33 : Int → Int → Mem → Prop) (x1 : Int) (x2 : Int) (x3 : Int) (s0 : Int) (M : Mem) : Prop :=
  (-2147483648 ≤ s0 ∧ s0 ≤ 2147483647) ∧ ((s0 = 0 → X33 x2 (x3 + 1) M) ∧ (¬ (s0 = 0) → w_m_allStand M x3 (fun a4 M5 => (-2147483648 ≤ a4 ∧ a4 ≤ 2147483647) ∧ ((a4 = 0 → X33 x2 (x3 + 1) M5) ∧ (¬ (a4 = 0) → X33 x3 (x3 + 1) M5)))))
set_option maxRecDepth 100000 in
set_option maxHeartbeats 4000000 in
theorem s_m_plan_j0 {Q : Int → Mem → Prop} {X33 : Int → Int → Mem → Prop} {x1 : Int} {x2 : Int} {x3 : Int} {s0 : Int} {M : Mem} (hC : rC p R s m args meth c cells slots D aC ad 5 cX12_plan RX12 9 211 (some .int)) (hQ : ∀ (pc : Nat) (L : List (Nat × RV)) (z : Int) (M : Mem), decode cX12_plan pc = .ok (.ireturn, 1) → Q z M → rG p l e R s m args below meth c cells slots Qs D aC ad 5 pc L [vI z] M) (hX33 : ∀ (x2 : Int) (x3 : Int) (M : Mem), X33 x2 x3 M → rG p l e R s m args below meth c cells slots Qs D aC ad 5 33 [(0, vR 12), (1, vI x1), (2, vI x2), (3, vI x3)] [] M) (hw : w_m_plan_j0 Q X33 x1 x2 x3 s0 M) : rG p l e R s m args below meth c cells slots Qs D aC ad 5 65 [(0, vR 12), (1, vI x1), (2, vI x2), (3, vI x3)] [vI s0] M := by
  unfold w_m_plan_j0 at hw
  refine r_istore hC dX12_plan_65 (by decide) ?_
  refine r_iload hC dX12_plan_67 rfl ?_
  obtain ⟨o1, hw⟩ := hw
  obtain ⟨hwt, hwf⟩ := hw
  refine r_if_eq hC 84 dX12_plan_69 (by decide) o1.1 o1.2 (fun c3 => ?_) (fun c3 => ?_)
  · have hw := hwt c3
    refine r_iload_n hC dX12_plan_84 rfl rfl ?_
    refine r_istore_n hC dX12_plan_85 rfl (by decide) ?_
    refine r_iinc hC dX12_plan_86 rfl (by decide) ?_
    refine r_goto hC 33 dX12_plan_89 (by decide) ?_
    exact r_subk (hX33 _ _ _ hw) ⟨rfl, rfl, rfl, rfl, trivial⟩
  · have hw := hwf c3
    refine r_aload_n hC dX12_plan_72 rfl rfl ?_
    refine r_iload_n hC dX12_plan_73 rfl rfl ?_
    refine r_callV hC (d_m_allStand hw) rfl kC12_allStand km12_382 kI12_allStand kS12_allStand kN12 dd_12_allStand ⟨Nat.le_of_ble_eq_true rfl, Nat.le_of_ble_eq_true rfl⟩ rfl (Nat.le_of_ble_eq_true rfl) dX12_plan_74 (fun r M' hp => ?_)
    obtain ⟨a4, rfl, hw⟩ := hp
    try dsimp only at hw
    obtain ⟨o6, hw⟩ := hw
    obtain ⟨hwt, hwf⟩ := hw
    refine r_if_eq hC 84 dX12_plan_77 (by decide) o6.1 o6.2 (fun c8 => ?_) (fun c8 => ?_)
    · have hw := hwt c8
      refine r_iload_n hC dX12_plan_84 rfl rfl ?_
      refine r_istore_n hC dX12_plan_85 rfl (by decide) ?_
      refine r_iinc hC dX12_plan_86 rfl (by decide) ?_
      refine r_goto hC 33 dX12_plan_89 (by decide) ?_
      exact r_subk (hX33 _ _ _ hw) ⟨rfl, rfl, rfl, rfl, trivial⟩
    · have hw := hwf c8
      refine r_iload_n hC dX12_plan_80 rfl rfl ?_
      refine r_goto hC 85 dX12_plan_81 (by decide) ?_
      refine r_istore_n hC dX12_plan_85 rfl (by decide) ?_
      refine r_iinc hC dX12_plan_86 rfl (by decide) ?_
      refine r_goto hC 33 dX12_plan_89 (by decide) ?_
      exact r_subk (hX33 _ _ _ hw) ⟨rfl, rfl, rfl, rfl, trivial⟩
def w_m_plan_B0 (Q : Int → Mem → Prop) (x1 : Int) (X33 : Int → Int → Mem → Prop) (x2 : Int) (x3 : Int) (M : Mem) : Prop :=
  ∀ a1 : Int, a1 = M 12 50 → 0 ≤ a1 → a1 ≤ 6 → (-2147483648 ≤ x3 ∧ x3 ≤ 2147483647) ∧ ((-2147483648 ≤ bShl 1 a1 ∧ bShl 1 a1 ≤ 2147483647) ∧ ((bShl 1 a1 ≤ x3 → (-2147483648 ≤ x2 ∧ x2 ≤ 2147483647) ∧ ((0 ≤ x2 → (-2147483648 ≤ x1 ∧ x1 ≤ 2147483647) ∧ ((¬ (x1 = 0) → w_m_priceOf M x2 (fun a12 => Q a12 M)) ∧ (x1 = 0 → Q x2 M))) ∧ (¬ (0 ≤ x2) → Q (-1) M))) ∧ (¬ (bShl 1 a1 ≤ x3) → (-2147483648 ≤ x2 ∧ x2 ≤ 2147483647) ∧ ((x2 < 0 → w_m_plan_j0 Q X33 x1 x2 x3 1 M) ∧ (¬ (x2 < 0) → w_m_priceOf M x3 (fun a16 => w_m_priceOf M x2 (fun a17 => (-2147483648 ≤ a16 ∧ a16 ≤ 2147483647) ∧ ((-2147483648 ≤ a17 ∧ a17 ≤ 2147483647) ∧ ((a17 ≤ a16 → w_m_plan_j0 Q X33 x1 x2 x3 0 M) ∧ (¬ (a17 ≤ a16) → w_m_plan_j0 Q X33 x1 x2 x3 1 M))))))))))
set_option maxRecDepth 100000 in
set_option maxHeartbeats 4000000 in
theorem s_m_plan_B0 {Q : Int → Mem → Prop} {x1 : Int} {X33 : Int → Int → Mem → Prop} {x2 : Int} {x3 : Int} {M : Mem} (hC : rC p R s m args meth c cells slots D aC ad 5 cX12_plan RX12 9 211 (some .int)) (hQ : ∀ (pc : Nat) (L : List (Nat × RV)) (z : Int) (M : Mem), decode cX12_plan pc = .ok (.ireturn, 1) → Q z M → rG p l e R s m args below meth c cells slots Qs D aC ad 5 pc L [vI z] M) (hX33 : ∀ (x2 : Int) (x3 : Int) (M : Mem), X33 x2 x3 M → rG p l e R s m args below meth c cells slots Qs D aC ad 5 33 [(0, vR 12), (1, vI x1), (2, vI x2), (3, vI x3)] [] M) (hw : w_m_plan_B0 Q x1 X33 x2 x3 M) : rG p l e R s m args below meth c cells slots Qs D aC ad 5 33 [(0, vR 12), (1, vI x1), (2, vI x2), (3, vI x3)] [] M := by
  unfold w_m_plan_B0 at hw
  refine r_iload_n hC dX12_plan_33 rfl rfl ?_
  refine r_iconst hC dX12_plan_34 ?_
  refine r_aload_n hC dX12_plan_35 rfl rfl ?_
  refine r_getI hC 50 rfl (by decide) kf12_219 rfl rfl dX12_plan_36 (fun b2 b2' => ?_)
  replace hw := hw _ rfl b2 b2'
  refine r_ishl hC dX12_plan_39 ?_
  obtain ⟨o3, hw⟩ := hw
  obtain ⟨o4, hw⟩ := hw
  obtain ⟨hwt, hwf⟩ := hw
  refine r_icmp_ge hC 92 dX12_plan_40 (by decide) o3.1 o3.2 o4.1 o4.2 (fun c5 => ?_) (fun c5 => ?_)
  · have hw := hwt c5
    refine r_iload_n hC dX12_plan_92 rfl rfl ?_
    obtain ⟨o6, hw⟩ := hw
    obtain ⟨hwt, hwf⟩ := hw
    refine r_if_ge hC 100 dX12_plan_93 (by decide) o6.1 o6.2 (fun c8 => ?_) (fun c8 => ?_)
    · have hw := hwt c8
      refine r_iload_n hC dX12_plan_100 rfl rfl ?_
      obtain ⟨o9, hw⟩ := hw
      obtain ⟨hwt, hwf⟩ := hw
      refine r_if_ne hC 108 dX12_plan_101 (by decide) o9.1 o9.2 (fun c11 => ?_) (fun c11 => ?_)
      · have hw := hwt c11
        refine r_aload_n hC dX12_plan_108 rfl rfl ?_
        refine r_iload_n hC dX12_plan_109 rfl rfl ?_
        refine r_callV hC (d_m_priceOf hw) rfl kC12_priceOf km12_385 kI12_priceOf kS12_priceOf kN12 dd_12_priceOf ⟨Nat.le_of_ble_eq_true rfl, Nat.le_of_ble_eq_true rfl⟩ rfl (Nat.le_of_ble_eq_true rfl) dX12_plan_110 (fun r M' hp => ?_)
        obtain ⟨rfl, a12, rfl, hw⟩ := hp
        try dsimp only at hw
        exact hQ _ _ _ _ dX12_plan_113 hw
      · have hw := hwf c11
        refine r_iload_n hC dX12_plan_104 rfl rfl ?_
        refine r_goto hC 113 dX12_plan_105 (by decide) ?_
        exact hQ _ _ _ _ dX12_plan_113 hw
    · have hw := hwf c8
      refine r_iconst hC dX12_plan_96 ?_
      refine r_goto hC 113 dX12_plan_97 (by decide) ?_
      exact hQ _ _ _ _ dX12_plan_113 hw
  · have hw := hwf c5
    refine r_iload_n hC dX12_plan_43 rfl rfl ?_
    obtain ⟨o13, hw⟩ := hw
    obtain ⟨hwt, hwf⟩ := hw
    refine r_if_lt hC 60 dX12_plan_44 (by decide) o13.1 o13.2 (fun c15 => ?_) (fun c15 => ?_)
    · have hw := hwt c15
      refine r_iconst hC dX12_plan_60 ?_
      refine r_goto hC 65 dX12_plan_61 (by decide) ?_
      exact r_subk (s_m_plan_j0 hC hQ hX33 hw) ⟨rfl, rfl, rfl, rfl, trivial⟩
    · have hw := hwf c15
      refine r_aload_n hC dX12_plan_47 rfl rfl ?_
      refine r_iload_n hC dX12_plan_48 rfl rfl ?_
      refine r_callV hC (d_m_priceOf hw) rfl kC12_priceOf km12_385 kI12_priceOf kS12_priceOf kN12 dd_12_priceOf ⟨Nat.le_of_ble_eq_true rfl, Nat.le_of_ble_eq_true rfl⟩ rfl (Nat.le_of_ble_eq_true rfl) dX12_plan_49 (fun r M' hp => ?_)
      obtain ⟨rfl, a16, rfl, hw⟩ := hp
      try dsimp only at hw
      refine r_aload_n hC dX12_plan_52 rfl rfl ?_
      refine r_iload_n hC dX12_plan_53 rfl rfl ?_
      refine r_callV hC (d_m_priceOf hw) rfl kC12_priceOf km12_385 kI12_priceOf kS12_priceOf kN12 dd_12_priceOf ⟨Nat.le_of_ble_eq_true rfl, Nat.le_of_ble_eq_true rfl⟩ rfl (Nat.le_of_ble_eq_true rfl) dX12_plan_54 (fun r M' hp => ?_)
      obtain ⟨rfl, a17, rfl, hw⟩ := hp
      try dsimp only at hw
      obtain ⟨o18, hw⟩ := hw
      obtain ⟨o19, hw⟩ := hw
      obtain ⟨hwt, hwf⟩ := hw
      refine r_icmp_ge hC 64 dX12_plan_57 (by decide) o18.1 o18.2 o19.1 o19.2 (fun c20 => ?_) (fun c20 => ?_)
      · have hw := hwt c20
        refine r_iconst hC dX12_plan_64 ?_
        exact r_subk (s_m_plan_j0 hC hQ hX33 hw) ⟨rfl, rfl, rfl, rfl, trivial⟩
      · have hw := hwf c20
        refine r_iconst hC dX12_plan_60 ?_
        refine r_goto hC 65 dX12_plan_61 (by decide) ?_
        exact r_subk (s_m_plan_j0 hC hQ hX33 hw) ⟨rfl, rfl, rfl, rfl, trivial⟩
def w_m_plan_L0 (Q : Int → Mem → Prop) (x1 : Int) (x2 : Int) (x3 : Int) (M : Mem) : Prop :=
  ∀ X : Int → Int → Mem → Prop, (∀ (x2 : Int) (x3 : Int) (M : Mem), w_m_plan_B0 Q x1 X x2 x3 M → X x2 x3 M) → X x2 x3 M
set_option maxRecDepth 100000 in
set_option maxHeartbeats 4000000 in
theorem s_m_plan_L0 {Q : Int → Mem → Prop} {x1 : Int} {x2 : Int} {x3 : Int} {M : Mem} (hC : rC p R s m args meth c cells slots D aC ad 5 cX12_plan RX12 9 211 (some .int)) (hQ : ∀ (pc : Nat) (L : List (Nat × RV)) (z : Int) (M : Mem), decode cX12_plan pc = .ok (.ireturn, 1) → Q z M → rG p l e R s m args below meth c cells slots Qs D aC ad 5 pc L [vI z] M) (hw : w_m_plan_L0 Q x1 x2 x3 M) : rG p l e R s m args below meth c cells slots Qs D aC ad 5 33 [(0, vR 12), (1, vI x1), (2, vI x2), (3, vI x3)] [] M := by
  unfold w_m_plan_L0 at hw
  exact hw (fun x2 x3 M => rG p l e R s m args below meth c cells slots Qs D aC ad 5 33 [(0, vR 12), (1, vI x1), (2, vI x2), (3, vI x3)] [] M) (fun x2 x3 M hb => s_m_plan_B0 hC hQ (fun _ _ _ h => h) hb)
def w_m_plan (M : Mem) (x1 : Int) (Q : Int → Mem → Prop) : Prop :=
  (-2147483648 ≤ x1 ∧ x1 ≤ 2147483647) ∧ (w_m_in M x1 0 1 (fun a2 => (-2147483648 ≤ a2 ∧ a2 ≤ 2147483647) ∧ ((¬ (a2 = 0) → w_m_findAllKept M (fun a6 M7 => (-2147483648 ≤ a6 ∧ a6 ≤ 2147483647) ∧ ((¬ (a6 = 0) → w_m_lookAnew M7 (fun M12 => w_m_plan_L0 Q x1 (-1) 0 M12)) ∧ (a6 = 0 → Q (-1005) M7)))) ∧ (a2 = 0 → Q (-1002) M))))
set_option maxRecDepth 100000 in
set_option maxHeartbeats 4000000 in
theorem s_m_plan {M : Mem} {x1 : Int} {Q : Int → Mem → Prop} (hC : rC p R s m args meth c cells slots D aC ad 5 cX12_plan RX12 9 211 (some .int)) (hQ : ∀ (pc : Nat) (L : List (Nat × RV)) (z : Int) (M : Mem), decode cX12_plan pc = .ok (.ireturn, 1) → Q z M → rG p l e R s m args below meth c cells slots Qs D aC ad 5 pc L [vI z] M) (hw : w_m_plan M x1 Q) : rG p l e R s m args below meth c cells slots Qs D aC ad 5 0 [(0, vR 12), (1, vI x1)] [] M := by
  unfold w_m_plan at hw
  refine r_iload_n hC dX12_plan_0 rfl rfl ?_
  obtain ⟨o1, hw⟩ := hw
  refine r_i2l hC dX12_plan_1 o1.1 o1.2 ?_
  refine r_lconst hC 0 dX12_plan_2 (by decide) ?_
  refine r_lconst hC 1 dX12_plan_3 (by decide) ?_
  refine r_callS hC (d_m_in hw) kC12_in km12_165 kT12_in kN12 dd_12_in ⟨Nat.le_of_ble_eq_true rfl, Nat.le_of_ble_eq_true rfl⟩ rfl (Nat.le_of_ble_eq_true rfl) dX12_plan_4 (fun r M' hp => ?_)
  obtain ⟨rfl, a2, rfl, hw⟩ := hp
  try dsimp only at hw
  obtain ⟨o3, hw⟩ := hw
  obtain ⟨hwt, hwf⟩ := hw
  refine r_if_ne hC 14 dX12_plan_7 (by decide) o3.1 o3.2 (fun c5 => ?_) (fun c5 => ?_)
  · have hw := hwt c5
    refine r_aload_n hC dX12_plan_14 rfl rfl ?_
    refine r_callV hC (d_m_findAllKept hw) rfl kC12_findAllKept km12_375 kI12_findAllKept kS12_findAllKept kN12 dd_12_findAllKept ⟨Nat.le_of_ble_eq_true rfl, Nat.le_of_ble_eq_true rfl⟩ rfl (Nat.le_of_ble_eq_true rfl) dX12_plan_15 (fun r M' hp => ?_)
    obtain ⟨a6, rfl, hw⟩ := hp
    try dsimp only at hw
    obtain ⟨o8, hw⟩ := hw
    obtain ⟨hwt, hwf⟩ := hw
    refine r_if_ne hC 25 dX12_plan_18 (by decide) o8.1 o8.2 (fun c10 => ?_) (fun c10 => ?_)
    · have hw := hwt c10
      refine r_aload_n hC dX12_plan_25 rfl rfl ?_
      refine r_callV hC (d_m_lookAnew hw) rfl kC12_lookAnew km12_379 kI12_lookAnew kS12_lookAnew kN12 dd_12_lookAnew ⟨Nat.le_of_ble_eq_true rfl, Nat.le_of_ble_eq_true rfl⟩ rfl (Nat.le_of_ble_eq_true rfl) dX12_plan_26 (fun r M' hp => ?_)
      obtain ⟨rfl, hw⟩ := hp
      try dsimp only at hw
      refine r_iconst hC dX12_plan_29 ?_
      refine r_istore_n hC dX12_plan_30 rfl (by decide) ?_
      refine r_iconst hC dX12_plan_31 ?_
      refine r_istore_n hC dX12_plan_32 rfl (by decide) ?_
      exact r_subk (s_m_plan_L0 hC hQ hw) ⟨rfl, rfl, rfl, rfl, trivial⟩
    · have hw := hwf c10
      refine r_sipush hC dX12_plan_21 (by decide) ?_
      exact hQ _ _ _ _ dX12_plan_24 hw
  · have hw := hwf c5
    refine r_sipush hC dX12_plan_10 (by decide) ?_
    exact hQ _ _ _ _ dX12_plan_13 hw
set_option maxRecDepth 100000 in
set_option maxHeartbeats 4000000 in
theorem d_m_plan {l : Launch} {D : va_G} {aC : Nat → ClassId} {ad : Nat → Nat} {M : Mem} {x1 : Int} {Q : Int → Mem → Prop} (hw : w_m_plan M x1 Q) : Does l D aC ad yX12_plan cX12_plan 5 (some .int) 9 211 [vR 12, vI x1] M (pI Q) :=
  Does.of (by decide) (Nat.le_of_ble_eq_true rfl) (fun p e R s m args below meth c hC => r_subk (s_m_plan hC (fun pc L z M d h => r_iret hC d ⟨z, rfl, h⟩) hw) ⟨rfl, rfl, trivial⟩)
/-- SoupSandModel.goColumn -/
def w_m_goColumn_j0 (Q : Mem → Prop) (X33 : Int → Mem → Prop) (X85 : Int → Mem → Prop) (x1 : Int) (x2 : Int) (x3 : Int) (x4 : Int) (s1 : Int) (s2 : Int) (s3 : Int) (M : Mem) : Prop :=
  ((0 ≤ s1 ∧ s1 < 8) ∧ (-1125899906842624 ≤ s2 + s3 ∧ s2 + s3 ≤ 1125899906842624)) ∧ (∀ M2 : Mem, M2 = mset M 97 s1 (s2 + s3) → X85 (x4 + 1) M2)
set_option maxRecDepth 100000 in
set_option maxHeartbeats 4000000 in
theorem s_m_goColumn_j0 {Q : Mem → Prop} {X33 : Int → Mem → Prop} {X85 : Int → Mem → Prop} {x1 : Int} {x2 : Int} {x3 : Int} {x4 : Int} {s1 : Int} {s2 : Int} {s3 : Int} {M : Mem} (hC : rC p R s m args meth c cells slots D aC ad 5 cX12_goColumn RX12 5 120 none) (hQ : ∀ (pc : Nat) (L : List (Nat × RV)) (M : Mem), decode cX12_goColumn pc = .ok (.return_, 1) → Q M → rG p l e R s m args below meth c cells slots Qs D aC ad 5 pc L [] M) (hX33 : ∀ (x3 : Int) (M : Mem), X33 x3 M → rG p l e R s m args below meth c cells slots Qs D aC ad 5 33 [(0, vR 12), (1, vI x1), (2, vI x2), (3, vI x3)] [] M) (hX85 : ∀ (x4 : Int) (M : Mem), X85 x4 M → rG p l e R s m args below meth c cells slots Qs D aC ad 5 85 [(0, vR 12), (1, vI x1), (2, vI x2), (3, vI x3), (4, vI x4)] [] M) (hw : w_m_goColumn_j0 Q X33 X85 x1 x2 x3 x4 s1 s2 s3 M) : rG p l e R s m args below meth c cells slots Qs D aC ad 5 137 [(0, vR 12), (1, vI x1), (2, vI x2), (3, vI x3), (4, vI x4)] [vJ s3, vJ s2, vI s1, vR 97] M := by
  unfold w_m_goColumn_j0 at hw
  refine r_ladd hC dX12_goColumn_137 ?_
  obtain ⟨o1, hw⟩ := hw
  refine r_last hC rfl o1.1.1 o1.1.2 (by decide) (by decide) o1.2.1 o1.2.2 dX12_goColumn_138 ?_
  replace hw := hw _ rfl
  refine r_iinc hC dX12_goColumn_139 rfl (by decide) ?_
  refine r_goto hC 85 dX12_goColumn_142 (by decide) ?_
  exact r_subk (hX85 _ _ hw) ⟨rfl, rfl, rfl, rfl, rfl, trivial⟩
def w_m_goColumn_B2 (Q : Mem → Prop) (X33 : Int → Mem → Prop) (x1 : Int) (x2 : Int) (x3 : Int) (X85 : Int → Mem → Prop) (x4 : Int) (M : Mem) : Prop :=
  ∀ a1 : Int, a1 = M 12 39 → 0 ≤ a1 → a1 ≤ 8 → (-2147483648 ≤ x4 ∧ x4 ≤ 2147483647) ∧ ((a1 ≤ x4 → X33 (x3 + 1) M) ∧ (¬ (a1 ≤ x4) → (0 ≤ x4 ∧ x4 < 8) ∧ (∀ a7 : Int, a7 = M 97 x4 → -1125899906842624 ≤ a7 → a7 ≤ 1125899906842624 → (0 ≤ x4 ∧ x4 < 8) ∧ (∀ a10 : Int, a10 = M 83 x4 → 0 ≤ a10 → a10 ≤ 5 → (-2147483648 ≤ x1 ∧ x1 ≤ 2147483647) ∧ ((¬ (a10 = x1) → w_m_goColumn_j0 Q X33 X85 x1 x2 x3 x4 x4 a7 0 M) ∧ (a10 = x1 → w_m_sinkOf M x4 (fun a15 => ∀ a17 : Int, a17 = M 64 23 → 0 ≤ a17 → a17 ≤ 999 → (-2147483648 ≤ a15 ∧ a15 ≤ 2147483647) ∧ ((a15 < a17 → w_m_goColumn_j0 Q X33 X85 x1 x2 x3 x4 x4 a7 0 M) ∧ (¬ (a15 < a17) → ∀ a22 : Int, a22 = M 12 17 → -1125899906842624 ≤ a22 → a22 ≤ 1125899906842624 → w_m_goColumn_j0 Q X33 X85 x1 x2 x3 x4 x4 a7 a22 M)))))))))
set_option maxRecDepth 100000 in
set_option maxHeartbeats 4000000 in
theorem s_m_goColumn_B2 {Q : Mem → Prop} {X33 : Int → Mem → Prop} {x1 : Int} {x2 : Int} {x3 : Int} {X85 : Int → Mem → Prop} {x4 : Int} {M : Mem} (hC : rC p R s m args meth c cells slots D aC ad 5 cX12_goColumn RX12 5 120 none) (hQ : ∀ (pc : Nat) (L : List (Nat × RV)) (M : Mem), decode cX12_goColumn pc = .ok (.return_, 1) → Q M → rG p l e R s m args below meth c cells slots Qs D aC ad 5 pc L [] M) (hX33 : ∀ (x3 : Int) (M : Mem), X33 x3 M → rG p l e R s m args below meth c cells slots Qs D aC ad 5 33 [(0, vR 12), (1, vI x1), (2, vI x2), (3, vI x3)] [] M) (hX85 : ∀ (x4 : Int) (M : Mem), X85 x4 M → rG p l e R s m args below meth c cells slots Qs D aC ad 5 85 [(0, vR 12), (1, vI x1), (2, vI x2), (3, vI x3), (4, vI x4)] [] M) (hw : w_m_goColumn_B2 Q X33 x1 x2 x3 X85 x4 M) : rG p l e R s m args below meth c cells slots Qs D aC ad 5 85 [(0, vR 12), (1, vI x1), (2, vI x2), (3, vI x3), (4, vI x4)] [] M := by
  unfold w_m_goColumn_B2 at hw
  refine r_iload hC dX12_goColumn_85 rfl ?_
  refine r_aload_n hC dX12_goColumn_87 rfl rfl ?_
  refine r_getI hC 39 rfl (by decide) kf12_213 rfl rfl dX12_goColumn_88 (fun b2 b2' => ?_)
  replace hw := hw _ rfl b2 b2'
  obtain ⟨o3, hw⟩ := hw
  obtain ⟨hwt, hwf⟩ := hw
  refine r_icmp_ge hC 145 dX12_goColumn_91 (by decide) o3.1 o3.2 (by omega) (by omega) (fun c5 => ?_) (fun c5 => ?_)
  · have hw := hwt c5
    refine r_iinc hC dX12_goColumn_145 rfl (by decide) ?_
    refine r_goto hC 33 dX12_goColumn_148 (by decide) ?_
    exact r_subk (hX33 _ _ hw) ⟨rfl, rfl, rfl, rfl, trivial⟩
  · have hw := hwf c5
    refine r_aload_n hC dX12_goColumn_94 rfl rfl ?_
    refine r_getR hC 58 rfl (by decide) kf12_143 rfl rfl dX12_goColumn_95 ?_
    refine r_iload hC dX12_goColumn_98 rfl ?_
    refine r_dup2 hC dX12_goColumn_100 rfl rfl ?_
    obtain ⟨o6, hw⟩ := hw
    refine r_lald hC rfl o6.1 o6.2 (by decide) (by decide) dX12_goColumn_101 (fun b8 b8' => ?_)
    replace hw := hw _ rfl b8 b8'
    refine r_aload_n hC dX12_goColumn_102 rfl rfl ?_
    refine r_getR hC 40 rfl (by decide) kf12_101 rfl rfl dX12_goColumn_103 ?_
    refine r_iload hC dX12_goColumn_106 rfl ?_
    obtain ⟨o9, hw⟩ := hw
    refine r_iald hC rfl o9.1 o9.2 (by decide) (by decide) dX12_goColumn_108 (fun b11 b11' => ?_)
    replace hw := hw _ rfl b11 b11'
    refine r_iload_n hC dX12_goColumn_109 rfl rfl ?_
    obtain ⟨o13, hw⟩ := hw
    obtain ⟨hwt, hwf⟩ := hw
    refine r_icmp_ne hC 136 dX12_goColumn_110 (by decide) (by omega) (by omega) o13.1 o13.2 (fun c14 => ?_) (fun c14 => ?_)
    · have hw := hwt c14
      refine r_lconst hC 0 dX12_goColumn_136 (by decide) ?_
      exact r_subk (s_m_goColumn_j0 hC hQ hX33 hX85 hw) ⟨rfl, rfl, rfl, rfl, rfl, trivial⟩
    · have hw := hwf c14
      refine r_aload_n hC dX12_goColumn_113 rfl rfl ?_
      refine r_iload hC dX12_goColumn_114 rfl ?_
      refine r_callV hC (d_m_sinkOf hw) rfl kC12_sinkOf km12_325 kI12_sinkOf kS12_sinkOf kN12 dd_12_sinkOf ⟨Nat.le_of_ble_eq_true rfl, Nat.le_of_ble_eq_true rfl⟩ rfl (Nat.le_of_ble_eq_true rfl) dX12_goColumn_116 (fun r M' hp => ?_)
      obtain ⟨rfl, a15, rfl, hw⟩ := hp
      try dsimp only at hw
      refine r_aload_n hC dX12_goColumn_119 rfl rfl ?_
      refine r_getR hC 12 rfl (by decide) kf12_43 rfl rfl dX12_goColumn_120 ?_
      refine r_bipush hC dX12_goColumn_123 (by decide) ?_
      refine r_iald hC rfl (by decide) (by decide) (by decide) (by decide) dX12_goColumn_125 (fun b18 b18' => ?_)
      replace hw := hw _ rfl b18 b18'
      obtain ⟨o19, hw⟩ := hw
      obtain ⟨hwt, hwf⟩ := hw
      refine r_icmp_lt hC 136 dX12_goColumn_126 (by decide) o19.1 o19.2 (by omega) (by omega) (fun c21 => ?_) (fun c21 => ?_)
      · have hw := hwt c21
        refine r_lconst hC 0 dX12_goColumn_136 (by decide) ?_
        exact r_subk (s_m_goColumn_j0 hC hQ hX33 hX85 hw) ⟨rfl, rfl, rfl, rfl, rfl, trivial⟩
      · have hw := hwf c21
        refine r_aload_n hC dX12_goColumn_129 rfl rfl ?_
        refine r_getJ hC 17 rfl (by decide) kf12_225 rfl rfl dX12_goColumn_130 (fun b23 b23' => ?_)
        replace hw := hw _ rfl b23 b23'
        refine r_goto hC 137 dX12_goColumn_133 (by decide) ?_
        exact r_subk (s_m_goColumn_j0 hC hQ hX33 hX85 hw) ⟨rfl, rfl, rfl, rfl, rfl, trivial⟩
def w_m_goColumn_L2 (Q : Mem → Prop) (X33 : Int → Mem → Prop) (x1 : Int) (x2 : Int) (x3 : Int) (x4 : Int) (M : Mem) : Prop :=
  ∀ X : Int → Mem → Prop, (∀ (x4 : Int) (M : Mem), w_m_goColumn_B2 Q X33 x1 x2 x3 X x4 M → X x4 M) → X x4 M
set_option maxRecDepth 100000 in
set_option maxHeartbeats 4000000 in
theorem s_m_goColumn_L2 {Q : Mem → Prop} {X33 : Int → Mem → Prop} {x1 : Int} {x2 : Int} {x3 : Int} {x4 : Int} {M : Mem} (hC : rC p R s m args meth c cells slots D aC ad 5 cX12_goColumn RX12 5 120 none) (hQ : ∀ (pc : Nat) (L : List (Nat × RV)) (M : Mem), decode cX12_goColumn pc = .ok (.return_, 1) → Q M → rG p l e R s m args below meth c cells slots Qs D aC ad 5 pc L [] M) (hX33 : ∀ (x3 : Int) (M : Mem), X33 x3 M → rG p l e R s m args below meth c cells slots Qs D aC ad 5 33 [(0, vR 12), (1, vI x1), (2, vI x2), (3, vI x3)] [] M) (hw : w_m_goColumn_L2 Q X33 x1 x2 x3 x4 M) : rG p l e R s m args below meth c cells slots Qs D aC ad 5 85 [(0, vR 12), (1, vI x1), (2, vI x2), (3, vI x3), (4, vI x4)] [] M := by
  unfold w_m_goColumn_L2 at hw
  exact hw (fun x4 M => rG p l e R s m args below meth c cells slots Qs D aC ad 5 85 [(0, vR 12), (1, vI x1), (2, vI x2), (3, vI x3), (4, vI x4)] [] M) (fun x4 M hb => s_m_goColumn_B2 hC hQ hX33 (fun _ _ h => h) hb)
def w_m_goColumn_B1 (Q : Mem → Prop) (x1 : Int) (x2 : Int) (X33 : Int → Mem → Prop) (x3 : Int) (M : Mem) : Prop :=
  w_m_manyChoices M x1 (fun a1 => (-2147483648 ≤ x3 ∧ x3 ≤ 2147483647) ∧ ((-2147483648 ≤ a1 ∧ a1 ≤ 2147483647) ∧ ((a1 ≤ x3 → Q M) ∧ (¬ (a1 ≤ x3) → (0 ≤ (729 * x1) + x3 ∧ (729 * x1) + x3 < 4374) ∧ (∀ a6 : Int, a6 = M 82 ((729 * x1) + x3) → 0 ≤ a6 → a6 ≤ 1 → (a6 = 0 → X33 (x3 + 1) M) ∧ (¬ (a6 = 0) → w_m_choose M x1 x3 (fun M12 => w_m_runOf M12 x1 x2 (fun M14 => ∀ a15 : Int, a15 = M14 12 36 → -1125899906842624 ≤ a15 → a15 ≤ 1125899906842624 → ∀ a17 : Int, a17 = M14 12 17 → -1125899906842624 ≤ a17 → a17 ≤ 1125899906842624 → (-1125899906842624 ≤ a15 + a17 ∧ a15 + a17 ≤ 1125899906842624) ∧ (∀ M20 : Mem, M20 = mset M14 12 36 (a15 + a17) → w_m_goColumn_L2 Q X33 x1 x2 x3 0 M20)))))))))
set_option maxRecDepth 100000 in
set_option maxHeartbeats 4000000 in
theorem s_m_goColumn_B1 {Q : Mem → Prop} {x1 : Int} {x2 : Int} {X33 : Int → Mem → Prop} {x3 : Int} {M : Mem} (hC : rC p R s m args meth c cells slots D aC ad 5 cX12_goColumn RX12 5 120 none) (hQ : ∀ (pc : Nat) (L : List (Nat × RV)) (M : Mem), decode cX12_goColumn pc = .ok (.return_, 1) → Q M → rG p l e R s m args below meth c cells slots Qs D aC ad 5 pc L [] M) (hX33 : ∀ (x3 : Int) (M : Mem), X33 x3 M → rG p l e R s m args below meth c cells slots Qs D aC ad 5 33 [(0, vR 12), (1, vI x1), (2, vI x2), (3, vI x3)] [] M) (hw : w_m_goColumn_B1 Q x1 x2 X33 x3 M) : rG p l e R s m args below meth c cells slots Qs D aC ad 5 33 [(0, vR 12), (1, vI x1), (2, vI x2), (3, vI x3)] [] M := by
  unfold w_m_goColumn_B1 at hw
  refine r_iload_n hC dX12_goColumn_33 rfl rfl ?_
  refine r_aload_n hC dX12_goColumn_34 rfl rfl ?_
  refine r_iload_n hC dX12_goColumn_35 rfl rfl ?_
  refine r_callV hC (d_m_manyChoices hw) rfl kC12_manyChoices km12_266 kI12_manyChoices kS12_manyChoices kN12 dd_12_manyChoices ⟨Nat.le_of_ble_eq_true rfl, Nat.le_of_ble_eq_true rfl⟩ rfl (Nat.le_of_ble_eq_true rfl) dX12_goColumn_36 (fun r M' hp => ?_)
  obtain ⟨rfl, a1, rfl, hw⟩ := hp
  try dsimp only at hw
  obtain ⟨o2, hw⟩ := hw
  obtain ⟨o3, hw⟩ := hw
  obtain ⟨hwt, hwf⟩ := hw
  refine r_icmp_ge hC 151 dX12_goColumn_39 (by decide) o2.1 o2.2 o3.1 o3.2 (fun c4 => ?_) (fun c4 => ?_)
  · have hw := hwt c4
    exact hQ _ _ _ dX12_goColumn_151 hw
  · have hw := hwf c4
    refine r_aload_n hC dX12_goColumn_42 rfl rfl ?_
    refine r_getR hC 34 rfl (by decide) kf12_98 rfl rfl dX12_goColumn_43 ?_
    refine r_sipush hC dX12_goColumn_46 (by decide) ?_
    refine r_iload_n hC dX12_goColumn_49 rfl rfl ?_
    refine r_imul hC dX12_goColumn_50 ?_
    refine r_iload_n hC dX12_goColumn_51 rfl rfl ?_
    refine r_iadd hC dX12_goColumn_52 ?_
    obtain ⟨o5, hw⟩ := hw
    refine r_zald hC rfl o5.1 o5.2 (by decide) (by decide) dX12_goColumn_53 (fun b7 b7' => ?_)
    replace hw := hw _ rfl b7 b7'
    obtain ⟨hwt, hwf⟩ := hw
    refine r_if_eq hC 145 dX12_goColumn_54 (by decide) (by omega) (by omega) (fun c10 => ?_) (fun c10 => ?_)
    · have hw := hwt c10
      refine r_iinc hC dX12_goColumn_145 rfl (by decide) ?_
      refine r_goto hC 33 dX12_goColumn_148 (by decide) ?_
      exact r_subk (hX33 _ _ hw) ⟨rfl, rfl, rfl, rfl, trivial⟩
    · have hw := hwf c10
      refine r_aload_n hC dX12_goColumn_57 rfl rfl ?_
      refine r_iload_n hC dX12_goColumn_58 rfl rfl ?_
      refine r_iload_n hC dX12_goColumn_59 rfl rfl ?_
      refine r_callV hC (d_m_choose hw) rfl kC12_choose km12_246 kI12_choose kS12_choose kN12 dd_12_choose ⟨Nat.le_of_ble_eq_true rfl, Nat.le_of_ble_eq_true rfl⟩ rfl (Nat.le_of_ble_eq_true rfl) dX12_goColumn_60 (fun r M' hp => ?_)
      obtain ⟨rfl, hw⟩ := hp
      try dsimp only at hw
      refine r_aload_n hC dX12_goColumn_63 rfl rfl ?_
      refine r_iload_n hC dX12_goColumn_64 rfl rfl ?_
      refine r_iload_n hC dX12_goColumn_65 rfl rfl ?_
      refine r_callV hC (d_m_runOf hw) rfl kC12_runOf km12_249 kI12_runOf kS12_runOf kN12 dd_12_runOf ⟨Nat.le_of_ble_eq_true rfl, Nat.le_of_ble_eq_true rfl⟩ rfl (Nat.le_of_ble_eq_true rfl) dX12_goColumn_66 (fun r M' hp => ?_)
      obtain ⟨rfl, hw⟩ := hp
      try dsimp only at hw
      refine r_aload_n hC dX12_goColumn_69 rfl rfl ?_
      refine r_dup hC dX12_goColumn_70 rfl ?_
      refine r_getJ hC 36 rfl (by decide) kf12_282 rfl rfl dX12_goColumn_71 (fun b16 b16' => ?_)
      replace hw := hw _ rfl b16 b16'
      refine r_aload_n hC dX12_goColumn_74 rfl rfl ?_
      refine r_getJ hC 17 rfl (by decide) kf12_225 rfl rfl dX12_goColumn_75 (fun b18 b18' => ?_)
      replace hw := hw _ rfl b18 b18'
      refine r_ladd hC dX12_goColumn_78 ?_
      obtain ⟨o19, hw⟩ := hw
      refine r_putJ hC 36 rfl (by decide) kf12_282 rfl rfl o19.1 o19.2 dX12_goColumn_79 ?_
      replace hw := hw _ rfl
      refine r_iconst hC dX12_goColumn_82 ?_
      refine r_istore hC dX12_goColumn_83 (by decide) ?_
      exact r_subk (s_m_goColumn_L2 hC hQ hX33 hw) ⟨rfl, rfl, rfl, rfl, rfl, trivial⟩
def w_m_goColumn_L1 (Q : Mem → Prop) (x1 : Int) (x2 : Int) (x3 : Int) (M : Mem) : Prop :=
  ∀ X : Int → Mem → Prop, (∀ (x3 : Int) (M : Mem), w_m_goColumn_B1 Q x1 x2 X x3 M → X x3 M) → X x3 M
set_option maxRecDepth 100000 in
set_option maxHeartbeats 4000000 in
theorem s_m_goColumn_L1 {Q : Mem → Prop} {x1 : Int} {x2 : Int} {x3 : Int} {M : Mem} (hC : rC p R s m args meth c cells slots D aC ad 5 cX12_goColumn RX12 5 120 none) (hQ : ∀ (pc : Nat) (L : List (Nat × RV)) (M : Mem), decode cX12_goColumn pc = .ok (.return_, 1) → Q M → rG p l e R s m args below meth c cells slots Qs D aC ad 5 pc L [] M) (hw : w_m_goColumn_L1 Q x1 x2 x3 M) : rG p l e R s m args below meth c cells slots Qs D aC ad 5 33 [(0, vR 12), (1, vI x1), (2, vI x2), (3, vI x3)] [] M := by
  unfold w_m_goColumn_L1 at hw
  exact hw (fun x3 M => rG p l e R s m args below meth c cells slots Qs D aC ad 5 33 [(0, vR 12), (1, vI x1), (2, vI x2), (3, vI x3)] [] M) (fun x3 M hb => s_m_goColumn_B1 hC hQ (fun _ _ h => h) hb)
def w_m_goColumn_B0 (Q : Mem → Prop) (x1 : Int) (x2 : Int) (X10 : Int → Mem → Prop) (x3 : Int) (M : Mem) : Prop :=
  ∀ a1 : Int, a1 = M 12 39 → 0 ≤ a1 → a1 ≤ 8 → (-2147483648 ≤ x3 ∧ x3 ≤ 2147483647) ∧ ((a1 ≤ x3 → w_m_goColumn_L1 Q x1 x2 0 M) ∧ (¬ (a1 ≤ x3) → (0 ≤ x3 ∧ x3 < 8) ∧ (∀ M7 : Mem, M7 = mset M 97 x3 0 → X10 (x3 + 1) M7)))
set_option maxRecDepth 100000 in
set_option maxHeartbeats 4000000 in
theorem s_m_goColumn_B0 {Q : Mem → Prop} {x1 : Int} {x2 : Int} {X10 : Int → Mem → Prop} {x3 : Int} {M : Mem} (hC : rC p R s m args meth c cells slots D aC ad 5 cX12_goColumn RX12 5 120 none) (hQ : ∀ (pc : Nat) (L : List (Nat × RV)) (M : Mem), decode cX12_goColumn pc = .ok (.return_, 1) → Q M → rG p l e R s m args below meth c cells slots Qs D aC ad 5 pc L [] M) (hX10 : ∀ (x3 : Int) (M : Mem), X10 x3 M → rG p l e R s m args below meth c cells slots Qs D aC ad 5 10 [(0, vR 12), (1, vI x1), (2, vI x2), (3, vI x3)] [] M) (hw : w_m_goColumn_B0 Q x1 x2 X10 x3 M) : rG p l e R s m args below meth c cells slots Qs D aC ad 5 10 [(0, vR 12), (1, vI x1), (2, vI x2), (3, vI x3)] [] M := by
  unfold w_m_goColumn_B0 at hw
  refine r_iload_n hC dX12_goColumn_10 rfl rfl ?_
  refine r_aload_n hC dX12_goColumn_11 rfl rfl ?_
  refine r_getI hC 39 rfl (by decide) kf12_213 rfl rfl dX12_goColumn_12 (fun b2 b2' => ?_)
  replace hw := hw _ rfl b2 b2'
  obtain ⟨o3, hw⟩ := hw
  obtain ⟨hwt, hwf⟩ := hw
  refine r_icmp_ge hC 31 dX12_goColumn_15 (by decide) o3.1 o3.2 (by omega) (by omega) (fun c5 => ?_) (fun c5 => ?_)
  · have hw := hwt c5
    refine r_iconst hC dX12_goColumn_31 ?_
    refine r_istore_n hC dX12_goColumn_32 rfl (by decide) ?_
    exact r_subk (s_m_goColumn_L1 hC hQ hw) ⟨rfl, rfl, rfl, rfl, trivial⟩
  · have hw := hwf c5
    refine r_aload_n hC dX12_goColumn_18 rfl rfl ?_
    refine r_getR hC 58 rfl (by decide) kf12_143 rfl rfl dX12_goColumn_19 ?_
    refine r_iload_n hC dX12_goColumn_22 rfl rfl ?_
    refine r_lconst hC 0 dX12_goColumn_23 (by decide) ?_
    obtain ⟨o6, hw⟩ := hw
    refine r_last hC rfl o6.1 o6.2 (by decide) (by decide) (by decide) (by decide) dX12_goColumn_24 ?_
    replace hw := hw _ rfl
    refine r_iinc hC dX12_goColumn_25 rfl (by decide) ?_
    refine r_goto hC 10 dX12_goColumn_28 (by decide) ?_
    exact r_subk (hX10 _ _ hw) ⟨rfl, rfl, rfl, rfl, trivial⟩
def w_m_goColumn_L0 (Q : Mem → Prop) (x1 : Int) (x2 : Int) (x3 : Int) (M : Mem) : Prop :=
  ∀ X : Int → Mem → Prop, (∀ (x3 : Int) (M : Mem), w_m_goColumn_B0 Q x1 x2 X x3 M → X x3 M) → X x3 M
set_option maxRecDepth 100000 in
set_option maxHeartbeats 4000000 in
theorem s_m_goColumn_L0 {Q : Mem → Prop} {x1 : Int} {x2 : Int} {x3 : Int} {M : Mem} (hC : rC p R s m args meth c cells slots D aC ad 5 cX12_goColumn RX12 5 120 none) (hQ : ∀ (pc : Nat) (L : List (Nat × RV)) (M : Mem), decode cX12_goColumn pc = .ok (.return_, 1) → Q M → rG p l e R s m args below meth c cells slots Qs D aC ad 5 pc L [] M) (hw : w_m_goColumn_L0 Q x1 x2 x3 M) : rG p l e R s m args below meth c cells slots Qs D aC ad 5 10 [(0, vR 12), (1, vI x1), (2, vI x2), (3, vI x3)] [] M := by
  unfold w_m_goColumn_L0 at hw
  exact hw (fun x3 M => rG p l e R s m args below meth c cells slots Qs D aC ad 5 10 [(0, vR 12), (1, vI x1), (2, vI x2), (3, vI x3)] [] M) (fun x3 M hb => s_m_goColumn_B0 hC hQ (fun _ _ h => h) hb)
def w_m_goColumn (M : Mem) (x1 : Int) (x2 : Int) (Q : Mem → Prop) : Prop :=
  w_m_plain M (fun M2 => w_m_begin M2 (fun M4 => w_m_goColumn_L0 Q x1 x2 0 M4))
set_option maxRecDepth 100000 in
set_option maxHeartbeats 4000000 in
theorem s_m_goColumn {M : Mem} {x1 : Int} {x2 : Int} {Q : Mem → Prop} (hC : rC p R s m args meth c cells slots D aC ad 5 cX12_goColumn RX12 5 120 none) (hQ : ∀ (pc : Nat) (L : List (Nat × RV)) (M : Mem), decode cX12_goColumn pc = .ok (.return_, 1) → Q M → rG p l e R s m args below meth c cells slots Qs D aC ad 5 pc L [] M) (hw : w_m_goColumn M x1 x2 Q) : rG p l e R s m args below meth c cells slots Qs D aC ad 5 0 [(0, vR 12), (1, vI x1), (2, vI x2)] [] M := by
  unfold w_m_goColumn at hw
  refine r_aload_n hC dX12_goColumn_0 rfl rfl ?_
  refine r_callV hC (d_m_plain hw) rfl kC12_plain km12_243 kI12_plain kS12_plain kN12 dd_12_plain ⟨Nat.le_of_ble_eq_true rfl, Nat.le_of_ble_eq_true rfl⟩ rfl (Nat.le_of_ble_eq_true rfl) dX12_goColumn_1 (fun r M' hp => ?_)
  obtain ⟨rfl, hw⟩ := hp
  try dsimp only at hw
  refine r_aload_n hC dX12_goColumn_4 rfl rfl ?_
  refine r_callV hC (d_m_begin hw) rfl kC12_begin km12_295 kI12_begin kS12_begin kN12 dd_12_begin ⟨Nat.le_of_ble_eq_true rfl, Nat.le_of_ble_eq_true rfl⟩ rfl (Nat.le_of_ble_eq_true rfl) dX12_goColumn_5 (fun r M' hp => ?_)
  obtain ⟨rfl, hw⟩ := hp
  try dsimp only at hw
  refine r_iconst hC dX12_goColumn_8 ?_
  refine r_istore_n hC dX12_goColumn_9 rfl (by decide) ?_
  exact r_subk (s_m_goColumn_L0 hC hQ hw) ⟨rfl, rfl, rfl, rfl, trivial⟩
set_option maxRecDepth 100000 in
set_option maxHeartbeats 4000000 in
theorem d_m_goColumn {l : Launch} {D : va_G} {aC : Nat → ClassId} {ad : Nat → Nat} {M : Mem} {x1 : Int} {x2 : Int} {Q : Mem → Prop} (hw : w_m_goColumn M x1 x2 Q) : Does l D aC ad yX12_goColumn cX12_goColumn 5 none 5 120 [vR 12, vI x1, vI x2] M (pV Q) :=
  Does.of (by decide) (Nat.le_of_ble_eq_true rfl) (fun p e R s m args below meth c hC => r_subk (s_m_goColumn hC (fun pc L M d h => r_vret hC d ⟨rfl, h⟩) hw) ⟨rfl, rfl, rfl, trivial⟩)
theorem dd_12_goColumn : yX12_goColumn.cls ≠ "java/lang/invoke/MethodHandle" ∧ yX12_goColumn.cls ≠ "java/lang/invoke/VarHandle" ∧ (parseMethodDescriptor yX12_goColumn.desc).map (fun d => d.parameters.length) = some 2 := by decide +kernel
/-- SoupSandModel.loss -/
def w_m_loss_B2 (Q : Int → Mem → Prop) (X15 : Int → Int → Mem → Prop) (X24 : Int → Int → Mem → Prop) (x3 : Int) (x4 : Int) (M : Mem) (X51 : Int → Int → Prop) (x1 : Int) (x5 : Int) : Prop :=
  ∀ a1 : Int, a1 = M 12 39 → 0 ≤ a1 → a1 ≤ 8 → (-2147483648 ≤ x5 ∧ x5 ≤ 2147483647) ∧ ((a1 ≤ x5 → X24 x1 (x4 + 1) M) ∧ (¬ (a1 ≤ x5) → (0 ≤ x5 ∧ x5 < 8) ∧ (∀ a7 : Int, a7 = M 83 x5 → 0 ≤ a7 → a7 ≤ 5 → (-2147483648 ≤ x3 ∧ x3 ≤ 2147483647) ∧ ((¬ (a7 = x3) → X51 (x1 + 0) (x5 + 1)) ∧ (a7 = x3 → (0 ≤ x4 ∧ x4 < 6) ∧ (∀ a13 : Int, a13 = M 61 x4 → 0 ≤ a13 → a13 ≤ 1000 → (0 ≤ x5 ∧ x5 < 8) ∧ (∀ a17 : Int, a17 = M 85 x5 → 0 ≤ a17 → a17 ≤ 9999 → (0 ≤ x5 ∧ x5 < 8) ∧ (∀ a21 : Int, a21 = M 97 x5 → -1125899906842624 ≤ a21 → a21 ≤ 1125899906842624 → ∀ a23 : Int, a23 = M 12 36 → -1125899906842624 ≤ a23 → a23 ≤ 1125899906842624 → ((0 ≤ (a13 * a17) * a21 ∧ (a13 * a17) * a21 ≤ 9223372036854775807) ∧ (0 < a23 ∧ a23 ≤ 9223372036854775807)) ∧ (X51 (x1 + (((a13 * a17) * a21) / a23)) (x5 + 1))))))))))
set_option maxRecDepth 100000 in
set_option maxHeartbeats 4000000 in
theorem s_m_loss_B2 {Q : Int → Mem → Prop} {X15 : Int → Int → Mem → Prop} {X24 : Int → Int → Mem → Prop} {x3 : Int} {x4 : Int} {M : Mem} {X51 : Int → Int → Prop} {x1 : Int} {x5 : Int} (hC : rC p R s m args meth c cells slots D aC ad 6 cX12_loss RX12 9 211 (some .long)) (hQ : ∀ (pc : Nat) (L : List (Nat × RV)) (z : Int) (M : Mem), decode cX12_loss pc = .ok (.lreturn, 1) → Q z M → rG p l e R s m args below meth c cells slots Qs D aC ad 6 pc L [vJ z] M) (hX15 : ∀ (x1 : Int) (x3 : Int) (M : Mem), X15 x1 x3 M → rG p l e R s m args below meth c cells slots Qs D aC ad 6 15 [(0, vR 12), (1, vJ x1), (3, vI x3)] [] M) (hX24 : ∀ (x1 : Int) (x4 : Int) (M : Mem), X24 x1 x4 M → rG p l e R s m args below meth c cells slots Qs D aC ad 6 24 [(0, vR 12), (1, vJ x1), (3, vI x3), (4, vI x4)] [] M) (hX51 : ∀ (x1 : Int) (x5 : Int), X51 x1 x5 → rG p l e R s m args below meth c cells slots Qs D aC ad 6 51 [(0, vR 12), (1, vJ x1), (3, vI x3), (4, vI x4), (5, vI x5)] [] M) (hw : w_m_loss_B2 Q X15 X24 x3 x4 M X51 x1 x5) : rG p l e R s m args below meth c cells slots Qs D aC ad 6 51 [(0, vR 12), (1, vJ x1), (3, vI x3), (4, vI x4), (5, vI x5)] [] M := by
  unfold w_m_loss_B2 at hw
  refine r_iload hC dX12_loss_51 rfl ?_
  refine r_aload_n hC dX12_loss_53 rfl rfl ?_
  refine r_getI hC 39 rfl (by decide) kf12_213 rfl rfl dX12_loss_54 (fun b2 b2' => ?_)
  replace hw := hw _ rfl b2 b2'
  obtain ⟨o3, hw⟩ := hw
  obtain ⟨hwt, hwf⟩ := hw
  refine r_icmp_ge hC 114 dX12_loss_57 (by decide) o3.1 o3.2 (by omega) (by omega) (fun c5 => ?_) (fun c5 => ?_)
  · have hw := hwt c5
    refine r_iinc hC dX12_loss_114 rfl (by decide) ?_
    refine r_goto hC 24 dX12_loss_117 (by decide) ?_
    exact r_subk (hX24 _ _ _ hw) ⟨rfl, rfl, rfl, rfl, trivial⟩
  · have hw := hwf c5
    refine r_lload_n hC dX12_loss_60 rfl rfl ?_
    refine r_aload_n hC dX12_loss_61 rfl rfl ?_
    refine r_getR hC 40 rfl (by decide) kf12_101 rfl rfl dX12_loss_62 ?_
    refine r_iload hC dX12_loss_65 rfl ?_
    obtain ⟨o6, hw⟩ := hw
    refine r_iald hC rfl o6.1 o6.2 (by decide) (by decide) dX12_loss_67 (fun b8 b8' => ?_)
    replace hw := hw _ rfl b8 b8'
    refine r_iload_n hC dX12_loss_68 rfl rfl ?_
    obtain ⟨o10, hw⟩ := hw
    obtain ⟨hwt, hwf⟩ := hw
    refine r_icmp_ne hC 105 dX12_loss_69 (by decide) (by omega) (by omega) o10.1 o10.2 (fun c11 => ?_) (fun c11 => ?_)
    · have hw := hwt c11
      refine r_lconst hC 0 dX12_loss_105 (by decide) ?_
      refine r_ladd hC dX12_loss_106 ?_
      refine r_lstore_n hC dX12_loss_107 rfl (by decide) ?_
      refine r_iinc hC dX12_loss_108 rfl (by decide) ?_
      refine r_goto hC 51 dX12_loss_111 (by decide) ?_
      exact r_subk (hX51 _ _ hw) ⟨rfl, rfl, rfl, rfl, rfl, trivial⟩
    · have hw := hwf c11
      refine r_aload_n hC dX12_loss_72 rfl rfl ?_
      refine r_getR hC 9 rfl (by decide) kf12_34 rfl rfl dX12_loss_73 ?_
      refine r_iload hC dX12_loss_76 rfl ?_
      obtain ⟨o12, hw⟩ := hw
      refine r_iald hC rfl o12.1 o12.2 (by decide) (by decide) dX12_loss_78 (fun b14 b14' => ?_)
      replace hw := hw _ rfl b14 b14'
      refine r_i2l hC dX12_loss_79 (by omega) (by omega) ?_
      refine r_aload_n hC dX12_loss_80 rfl rfl ?_
      refine r_getR hC 42 rfl (by decide) kf12_107 rfl rfl dX12_loss_81 ?_
      refine r_iload hC dX12_loss_84 rfl ?_
      obtain ⟨o16, hw⟩ := hw
      refine r_iald hC rfl o16.1 o16.2 (by decide) (by decide) dX12_loss_86 (fun b18 b18' => ?_)
      replace hw := hw _ rfl b18 b18'
      refine r_i2l hC dX12_loss_87 (by omega) (by omega) ?_
      refine r_lmul hC dX12_loss_88 ?_
      refine r_aload_n hC dX12_loss_89 rfl rfl ?_
      refine r_getR hC 58 rfl (by decide) kf12_143 rfl rfl dX12_loss_90 ?_
      refine r_iload hC dX12_loss_93 rfl ?_
      obtain ⟨o20, hw⟩ := hw
      refine r_lald hC rfl o20.1 o20.2 (by decide) (by decide) dX12_loss_95 (fun b22 b22' => ?_)
      replace hw := hw _ rfl b22 b22'
      refine r_lmul hC dX12_loss_96 ?_
      refine r_aload_n hC dX12_loss_97 rfl rfl ?_
      refine r_getJ hC 36 rfl (by decide) kf12_282 rfl rfl dX12_loss_98 (fun b24 b24' => ?_)
      replace hw := hw _ rfl b24 b24'
      obtain ⟨o25, hw⟩ := hw
      refine r_ldiv hC dX12_loss_101 o25.1.1 o25.1.2 o25.2.1 o25.2.2 ?_
      refine r_goto hC 106 dX12_loss_102 (by decide) ?_
      refine r_ladd hC dX12_loss_106 ?_
      refine r_lstore_n hC dX12_loss_107 rfl (by decide) ?_
      refine r_iinc hC dX12_loss_108 rfl (by decide) ?_
      refine r_goto hC 51 dX12_loss_111 (by decide) ?_
      exact r_subk (hX51 _ _ hw) ⟨rfl, rfl, rfl, rfl, rfl, trivial⟩
def w_m_loss_L2 (Q : Int → Mem → Prop) (X15 : Int → Int → Mem → Prop) (X24 : Int → Int → Mem → Prop) (x3 : Int) (x4 : Int) (M : Mem) (x1 : Int) (x5 : Int) : Prop :=
  ∀ X : Int → Int → Prop, (∀ (x1 : Int) (x5 : Int), w_m_loss_B2 Q X15 X24 x3 x4 M X x1 x5 → X x1 x5) → X x1 x5
set_option maxRecDepth 100000 in
set_option maxHeartbeats 4000000 in
theorem s_m_loss_L2 {Q : Int → Mem → Prop} {X15 : Int → Int → Mem → Prop} {X24 : Int → Int → Mem → Prop} {x3 : Int} {x4 : Int} {M : Mem} {x1 : Int} {x5 : Int} (hC : rC p R s m args meth c cells slots D aC ad 6 cX12_loss RX12 9 211 (some .long)) (hQ : ∀ (pc : Nat) (L : List (Nat × RV)) (z : Int) (M : Mem), decode cX12_loss pc = .ok (.lreturn, 1) → Q z M → rG p l e R s m args below meth c cells slots Qs D aC ad 6 pc L [vJ z] M) (hX15 : ∀ (x1 : Int) (x3 : Int) (M : Mem), X15 x1 x3 M → rG p l e R s m args below meth c cells slots Qs D aC ad 6 15 [(0, vR 12), (1, vJ x1), (3, vI x3)] [] M) (hX24 : ∀ (x1 : Int) (x4 : Int) (M : Mem), X24 x1 x4 M → rG p l e R s m args below meth c cells slots Qs D aC ad 6 24 [(0, vR 12), (1, vJ x1), (3, vI x3), (4, vI x4)] [] M) (hw : w_m_loss_L2 Q X15 X24 x3 x4 M x1 x5) : rG p l e R s m args below meth c cells slots Qs D aC ad 6 51 [(0, vR 12), (1, vJ x1), (3, vI x3), (4, vI x4), (5, vI x5)] [] M := by
  unfold w_m_loss_L2 at hw
  exact hw (fun x1 x5 => rG p l e R s m args below meth c cells slots Qs D aC ad 6 51 [(0, vR 12), (1, vJ x1), (3, vI x3), (4, vI x4), (5, vI x5)] [] M) (fun x1 x5 hb => s_m_loss_B2 hC hQ hX15 hX24 (fun _ _ h => h) hb)
def w_m_loss_B1 (Q : Int → Mem → Prop) (X15 : Int → Int → Mem → Prop) (x3 : Int) (X24 : Int → Int → Mem → Prop) (x1 : Int) (x4 : Int) (M : Mem) : Prop :=
  ∀ a1 : Int, a1 = M 12 8 → 0 ≤ a1 → a1 ≤ 6 → (-2147483648 ≤ x4 ∧ x4 ≤ 2147483647) ∧ ((a1 ≤ x4 → X15 x1 (x3 + 1) M) ∧ (¬ (a1 ≤ x4) → w_m_hasHouse M x3 (fun a6 => (-2147483648 ≤ a6 ∧ a6 ≤ 2147483647) ∧ ((a6 = 0 → X15 x1 (x3 + 1) M) ∧ (¬ (a6 = 0) → w_m_goColumn M x3 x4 (fun M11 => w_m_loss_L2 Q X15 X24 x3 x4 M11 x1 0))))))
set_option maxRecDepth 100000 in
set_option maxHeartbeats 4000000 in
theorem s_m_loss_B1 {Q : Int → Mem → Prop} {X15 : Int → Int → Mem → Prop} {x3 : Int} {X24 : Int → Int → Mem → Prop} {x1 : Int} {x4 : Int} {M : Mem} (hC : rC p R s m args meth c cells slots D aC ad 6 cX12_loss RX12 9 211 (some .long)) (hQ : ∀ (pc : Nat) (L : List (Nat × RV)) (z : Int) (M : Mem), decode cX12_loss pc = .ok (.lreturn, 1) → Q z M → rG p l e R s m args below meth c cells slots Qs D aC ad 6 pc L [vJ z] M) (hX15 : ∀ (x1 : Int) (x3 : Int) (M : Mem), X15 x1 x3 M → rG p l e R s m args below meth c cells slots Qs D aC ad 6 15 [(0, vR 12), (1, vJ x1), (3, vI x3)] [] M) (hX24 : ∀ (x1 : Int) (x4 : Int) (M : Mem), X24 x1 x4 M → rG p l e R s m args below meth c cells slots Qs D aC ad 6 24 [(0, vR 12), (1, vJ x1), (3, vI x3), (4, vI x4)] [] M) (hw : w_m_loss_B1 Q X15 x3 X24 x1 x4 M) : rG p l e R s m args below meth c cells slots Qs D aC ad 6 24 [(0, vR 12), (1, vJ x1), (3, vI x3), (4, vI x4)] [] M := by
  unfold w_m_loss_B1 at hw
  refine r_iload hC dX12_loss_24 rfl ?_
  refine r_aload_n hC dX12_loss_26 rfl rfl ?_
  refine r_getI hC 8 rfl (by decide) kf12_173 rfl rfl dX12_loss_27 (fun b2 b2' => ?_)
  replace hw := hw _ rfl b2 b2'
  obtain ⟨o3, hw⟩ := hw
  obtain ⟨hwt, hwf⟩ := hw
  refine r_icmp_ge hC 120 dX12_loss_30 (by decide) o3.1 o3.2 (by omega) (by omega) (fun c5 => ?_) (fun c5 => ?_)
  · have hw := hwt c5
    refine r_iinc hC dX12_loss_120 rfl (by decide) ?_
    refine r_goto hC 15 dX12_loss_123 (by decide) ?_
    exact r_subk (hX15 _ _ _ hw) ⟨rfl, rfl, rfl, trivial⟩
  · have hw := hwf c5
    refine r_aload_n hC dX12_loss_33 rfl rfl ?_
    refine r_iload_n hC dX12_loss_34 rfl rfl ?_
    refine r_callV hC (d_m_hasHouse hw) rfl kC12_hasHouse km12_366 kI12_hasHouse kS12_hasHouse kN12 dd_12_hasHouse ⟨Nat.le_of_ble_eq_true rfl, Nat.le_of_ble_eq_true rfl⟩ rfl (Nat.le_of_ble_eq_true rfl) dX12_loss_35 (fun r M' hp => ?_)
    obtain ⟨rfl, a6, rfl, hw⟩ := hp
    try dsimp only at hw
    obtain ⟨o7, hw⟩ := hw
    obtain ⟨hwt, hwf⟩ := hw
    refine r_if_eq hC 120 dX12_loss_38 (by decide) o7.1 o7.2 (fun c9 => ?_) (fun c9 => ?_)
    · have hw := hwt c9
      refine r_iinc hC dX12_loss_120 rfl (by decide) ?_
      refine r_goto hC 15 dX12_loss_123 (by decide) ?_
      exact r_subk (hX15 _ _ _ hw) ⟨rfl, rfl, rfl, trivial⟩
    · have hw := hwf c9
      refine r_aload_n hC dX12_loss_41 rfl rfl ?_
      refine r_iload_n hC dX12_loss_42 rfl rfl ?_
      refine r_iload hC dX12_loss_43 rfl ?_
      refine r_callV hC (d_m_goColumn hw) rfl kC12_goColumn km12_388 kI12_goColumn kS12_goColumn kN12 dd_12_goColumn ⟨Nat.le_of_ble_eq_true rfl, Nat.le_of_ble_eq_true rfl⟩ rfl (Nat.le_of_ble_eq_true rfl) dX12_loss_45 (fun r M' hp => ?_)
      obtain ⟨rfl, hw⟩ := hp
      try dsimp only at hw
      refine r_iconst hC dX12_loss_48 ?_
      refine r_istore hC dX12_loss_49 (by decide) ?_
      exact r_subk (s_m_loss_L2 hC hQ hX15 hX24 hw) ⟨rfl, rfl, rfl, rfl, rfl, trivial⟩
def w_m_loss_L1 (Q : Int → Mem → Prop) (X15 : Int → Int → Mem → Prop) (x3 : Int) (x1 : Int) (x4 : Int) (M : Mem) : Prop :=
  ∀ X : Int → Int → Mem → Prop, (∀ (x1 : Int) (x4 : Int) (M : Mem), w_m_loss_B1 Q X15 x3 X x1 x4 M → X x1 x4 M) → X x1 x4 M
set_option maxRecDepth 100000 in
set_option maxHeartbeats 4000000 in
theorem s_m_loss_L1 {Q : Int → Mem → Prop} {X15 : Int → Int → Mem → Prop} {x3 : Int} {x1 : Int} {x4 : Int} {M : Mem} (hC : rC p R s m args meth c cells slots D aC ad 6 cX12_loss RX12 9 211 (some .long)) (hQ : ∀ (pc : Nat) (L : List (Nat × RV)) (z : Int) (M : Mem), decode cX12_loss pc = .ok (.lreturn, 1) → Q z M → rG p l e R s m args below meth c cells slots Qs D aC ad 6 pc L [vJ z] M) (hX15 : ∀ (x1 : Int) (x3 : Int) (M : Mem), X15 x1 x3 M → rG p l e R s m args below meth c cells slots Qs D aC ad 6 15 [(0, vR 12), (1, vJ x1), (3, vI x3)] [] M) (hw : w_m_loss_L1 Q X15 x3 x1 x4 M) : rG p l e R s m args below meth c cells slots Qs D aC ad 6 24 [(0, vR 12), (1, vJ x1), (3, vI x3), (4, vI x4)] [] M := by
  unfold w_m_loss_L1 at hw
  exact hw (fun x1 x4 M => rG p l e R s m args below meth c cells slots Qs D aC ad 6 24 [(0, vR 12), (1, vJ x1), (3, vI x3), (4, vI x4)] [] M) (fun x1 x4 M hb => s_m_loss_B1 hC hQ hX15 (fun _ _ _ h => h) hb)
def w_m_loss_B0 (Q : Int → Mem → Prop) (X15 : Int → Int → Mem → Prop) (x1 : Int) (x3 : Int) (M : Mem) : Prop :=
  (-2147483648 ≤ x3 ∧ x3 ≤ 2147483647) ∧ ((6 ≤ x3 → Q x1 M) ∧ (¬ (6 ≤ x3) → w_m_loss_L1 Q X15 x3 x1 0 M))
set_option maxRecDepth 100000 in
set_option maxHeartbeats 4000000 in
theorem s_m_loss_B0 {Q : Int → Mem → Prop} {X15 : Int → Int → Mem → Prop} {x1 : Int} {x3 : Int} {M : Mem} (hC : rC p R s m args meth c cells slots D aC ad 6 cX12_loss RX12 9 211 (some .long)) (hQ : ∀ (pc : Nat) (L : List (Nat × RV)) (z : Int) (M : Mem), decode cX12_loss pc = .ok (.lreturn, 1) → Q z M → rG p l e R s m args below meth c cells slots Qs D aC ad 6 pc L [vJ z] M) (hX15 : ∀ (x1 : Int) (x3 : Int) (M : Mem), X15 x1 x3 M → rG p l e R s m args below meth c cells slots Qs D aC ad 6 15 [(0, vR 12), (1, vJ x1), (3, vI x3)] [] M) (hw : w_m_loss_B0 Q X15 x1 x3 M) : rG p l e R s m args below meth c cells slots Qs D aC ad 6 15 [(0, vR 12), (1, vJ x1), (3, vI x3)] [] M := by
  unfold w_m_loss_B0 at hw
  refine r_iload_n hC dX12_loss_15 rfl rfl ?_
  refine r_bipush hC dX12_loss_16 (by decide) ?_
  obtain ⟨o1, hw⟩ := hw
  obtain ⟨hwt, hwf⟩ := hw
  refine r_icmp_ge hC 126 dX12_loss_18 (by decide) o1.1 o1.2 (by decide) (by decide) (fun c3 => ?_) (fun c3 => ?_)
  · have hw := hwt c3
    refine r_lload_n hC dX12_loss_126 rfl rfl ?_
    exact hQ _ _ _ _ dX12_loss_127 hw
  · have hw := hwf c3
    refine r_iconst hC dX12_loss_21 ?_
    refine r_istore hC dX12_loss_22 (by decide) ?_
    exact r_subk (s_m_loss_L1 hC hQ hX15 hw) ⟨rfl, rfl, rfl, rfl, trivial⟩
def w_m_loss_L0 (Q : Int → Mem → Prop) (x1 : Int) (x3 : Int) (M : Mem) : Prop :=
  ∀ X : Int → Int → Mem → Prop, (∀ (x1 : Int) (x3 : Int) (M : Mem), w_m_loss_B0 Q X x1 x3 M → X x1 x3 M) → X x1 x3 M
set_option maxRecDepth 100000 in
set_option maxHeartbeats 4000000 in
theorem s_m_loss_L0 {Q : Int → Mem → Prop} {x1 : Int} {x3 : Int} {M : Mem} (hC : rC p R s m args meth c cells slots D aC ad 6 cX12_loss RX12 9 211 (some .long)) (hQ : ∀ (pc : Nat) (L : List (Nat × RV)) (z : Int) (M : Mem), decode cX12_loss pc = .ok (.lreturn, 1) → Q z M → rG p l e R s m args below meth c cells slots Qs D aC ad 6 pc L [vJ z] M) (hw : w_m_loss_L0 Q x1 x3 M) : rG p l e R s m args below meth c cells slots Qs D aC ad 6 15 [(0, vR 12), (1, vJ x1), (3, vI x3)] [] M := by
  unfold w_m_loss_L0 at hw
  exact hw (fun x1 x3 M => rG p l e R s m args below meth c cells slots Qs D aC ad 6 15 [(0, vR 12), (1, vJ x1), (3, vI x3)] [] M) (fun x1 x3 M hb => s_m_loss_B0 hC hQ (fun _ _ _ h => h) hb)
def w_m_loss (M : Mem) (Q : Int → Mem → Prop) : Prop :=
  w_m_findAllKept M (fun a1 M2 => (-2147483648 ≤ a1 ∧ a1 ≤ 2147483647) ∧ ((¬ (a1 = 0) → w_m_loss_L0 Q 0 0 M2) ∧ (a1 = 0 → Q (-1005) M2)))
set_option maxRecDepth 100000 in
set_option maxHeartbeats 4000000 in
theorem s_m_loss {M : Mem} {Q : Int → Mem → Prop} (hC : rC p R s m args meth c cells slots D aC ad 6 cX12_loss RX12 9 211 (some .long)) (hQ : ∀ (pc : Nat) (L : List (Nat × RV)) (z : Int) (M : Mem), decode cX12_loss pc = .ok (.lreturn, 1) → Q z M → rG p l e R s m args below meth c cells slots Qs D aC ad 6 pc L [vJ z] M) (hw : w_m_loss M Q) : rG p l e R s m args below meth c cells slots Qs D aC ad 6 0 [(0, vR 12)] [] M := by
  unfold w_m_loss at hw
  refine r_aload_n hC dX12_loss_0 rfl rfl ?_
  refine r_callV hC (d_m_findAllKept hw) rfl kC12_findAllKept km12_375 kI12_findAllKept kS12_findAllKept kN12 dd_12_findAllKept ⟨Nat.le_of_ble_eq_true rfl, Nat.le_of_ble_eq_true rfl⟩ rfl (Nat.le_of_ble_eq_true rfl) dX12_loss_1 (fun r M' hp => ?_)
  obtain ⟨a1, rfl, hw⟩ := hp
  try dsimp only at hw
  obtain ⟨o3, hw⟩ := hw
  obtain ⟨hwt, hwf⟩ := hw
  refine r_if_ne hC 11 dX12_loss_4 (by decide) o3.1 o3.2 (fun c5 => ?_) (fun c5 => ?_)
  · have hw := hwt c5
    refine r_lconst hC 0 dX12_loss_11 (by decide) ?_
    refine r_lstore_n hC dX12_loss_12 rfl (by decide) ?_
    refine r_iconst hC dX12_loss_13 ?_
    refine r_istore_n hC dX12_loss_14 rfl (by decide) ?_
    exact r_subk (s_m_loss_L0 hC hQ hw) ⟨rfl, rfl, rfl, trivial⟩
  · have hw := hwf c5
    refine r_ldc2 hC (-1005) dX12_loss_7 kL12_318 (by decide) ?_
    exact hQ _ _ _ _ dX12_loss_10 hw
set_option maxRecDepth 100000 in
set_option maxHeartbeats 4000000 in
theorem d_m_loss {l : Launch} {D : va_G} {aC : Nat → ClassId} {ad : Nat → Nat} {M : Mem} {Q : Int → Mem → Prop} (hw : w_m_loss M Q) : Does l D aC ad yX12_loss cX12_loss 6 (some .long) 9 211 [vR 12] M (pJ Q) :=
  Does.of (by decide) (Nat.le_of_ble_eq_true rfl) (fun p e R s m args below meth c hC => r_subk (s_m_loss hC (fun pc L z M d h => r_lret hC d ⟨z, rfl, h⟩) hw) ⟨rfl, trivial⟩)
/-- SoupSandModel.feed -/
def w_m_feed_B0 (Q : Int → Mem → Prop) (x2 : Int) (X37 : Int → Mem → Prop) (x4 : Int) (M : Mem) : Prop :=
  (-2147483648 ≤ x4 ∧ x4 ≤ 2147483647) ∧ ((x4 < 0 → ∀ a4 : Int, a4 = M 12 60 → 0 ≤ a4 → a4 ≤ 200 → Q a4 M) ∧ (¬ (x4 < 0) → ∀ a6 : Int, a6 = M 12 60 → 0 ≤ a6 → a6 ≤ 200 → ((0 ≤ a6 ∧ a6 < 200) ∧ (0 ≤ lAnd (lShr x2 (8 * x4)) 255 ∧ lAnd (lShr x2 (8 * x4)) 255 ≤ 255)) ∧ (∀ M9 : Mem, M9 = mset M 98 a6 (lAnd (lShr x2 (8 * x4)) 255) → ∀ a10 : Int, a10 = M9 12 60 → 0 ≤ a10 → a10 ≤ 200 → (0 ≤ a10 + 1 ∧ a10 + 1 ≤ 200) ∧ (∀ M13 : Mem, M13 = mset M9 12 60 (a10 + 1) → X37 (x4 + (-1)) M13))))
set_option maxRecDepth 100000 in
set_option maxHeartbeats 4000000 in
theorem s_m_feed_B0 {Q : Int → Mem → Prop} {x2 : Int} {X37 : Int → Mem → Prop} {x4 : Int} {M : Mem} (hC : rC p R s m args meth c cells slots D aC ad 5 cX12_feed RX12 1 25 (some .int)) (hQ : ∀ (pc : Nat) (L : List (Nat × RV)) (z : Int) (M : Mem), decode cX12_feed pc = .ok (.ireturn, 1) → Q z M → rG p l e R s m args below meth c cells slots Qs D aC ad 5 pc L [vI z] M) (hX37 : ∀ (x4 : Int) (M : Mem), X37 x4 M → rG p l e R s m args below meth c cells slots Qs D aC ad 5 37 [(0, vR 12), (2, vJ x2), (4, vI x4)] [] M) (hw : w_m_feed_B0 Q x2 X37 x4 M) : rG p l e R s m args below meth c cells slots Qs D aC ad 5 37 [(0, vR 12), (2, vJ x2), (4, vI x4)] [] M := by
  unfold w_m_feed_B0 at hw
  refine r_iload hC dX12_feed_37 rfl ?_
  obtain ⟨o1, hw⟩ := hw
  obtain ⟨hwt, hwf⟩ := hw
  refine r_if_lt hC 79 dX12_feed_39 (by decide) o1.1 o1.2 (fun c3 => ?_) (fun c3 => ?_)
  · have hw := hwt c3
    refine r_aload_n hC dX12_feed_79 rfl rfl ?_
    refine r_getI hC 60 rfl (by decide) kf12_222 rfl rfl dX12_feed_80 (fun b5 b5' => ?_)
    replace hw := hw _ rfl b5 b5'
    exact hQ _ _ _ _ dX12_feed_83 hw
  · have hw := hwf c3
    refine r_aload_n hC dX12_feed_42 rfl rfl ?_
    refine r_getR hC 59 rfl (by decide) kf12_147 rfl rfl dX12_feed_43 ?_
    refine r_aload_n hC dX12_feed_46 rfl rfl ?_
    refine r_getI hC 60 rfl (by decide) kf12_222 rfl rfl dX12_feed_47 (fun b7 b7' => ?_)
    replace hw := hw _ rfl b7 b7'
    refine r_lload_n hC dX12_feed_50 rfl rfl ?_
    refine r_bipush hC dX12_feed_51 (by decide) ?_
    refine r_iload hC dX12_feed_53 rfl ?_
    refine r_imul hC dX12_feed_55 ?_
    refine r_lshr hC dX12_feed_56 ?_
    refine r_ldc2 hC (255) dX12_feed_57 kL12_393 (by decide) ?_
    refine r_land hC dX12_feed_60 ?_
    refine r_l2i hC dX12_feed_61 ?_
    obtain ⟨o8, hw⟩ := hw
    refine r_iast hC rfl o8.1.1 o8.1.2 (by decide) (by decide) o8.2.1 o8.2.2 dX12_feed_62 ?_
    replace hw := hw _ rfl
    refine r_aload_n hC dX12_feed_63 rfl rfl ?_
    refine r_dup hC dX12_feed_64 rfl ?_
    refine r_getI hC 60 rfl (by decide) kf12_222 rfl rfl dX12_feed_65 (fun b11 b11' => ?_)
    replace hw := hw _ rfl b11 b11'
    refine r_iconst hC dX12_feed_68 ?_
    refine r_iadd hC dX12_feed_69 ?_
    obtain ⟨o12, hw⟩ := hw
    refine r_putI hC 60 rfl (by decide) kf12_222 rfl rfl o12.1 o12.2 dX12_feed_70 ?_
    replace hw := hw _ rfl
    refine r_iinc hC dX12_feed_73 rfl (by decide) ?_
    refine r_goto hC 37 dX12_feed_76 (by decide) ?_
    exact r_subk (hX37 _ _ hw) ⟨rfl, rfl, rfl, trivial⟩
def w_m_feed_L0 (Q : Int → Mem → Prop) (x2 : Int) (x4 : Int) (M : Mem) : Prop :=
  ∀ X : Int → Mem → Prop, (∀ (x4 : Int) (M : Mem), w_m_feed_B0 Q x2 X x4 M → X x4 M) → X x4 M
set_option maxRecDepth 100000 in
set_option maxHeartbeats 4000000 in
theorem s_m_feed_L0 {Q : Int → Mem → Prop} {x2 : Int} {x4 : Int} {M : Mem} (hC : rC p R s m args meth c cells slots D aC ad 5 cX12_feed RX12 1 25 (some .int)) (hQ : ∀ (pc : Nat) (L : List (Nat × RV)) (z : Int) (M : Mem), decode cX12_feed pc = .ok (.ireturn, 1) → Q z M → rG p l e R s m args below meth c cells slots Qs D aC ad 5 pc L [vI z] M) (hw : w_m_feed_L0 Q x2 x4 M) : rG p l e R s m args below meth c cells slots Qs D aC ad 5 37 [(0, vR 12), (2, vJ x2), (4, vI x4)] [] M := by
  unfold w_m_feed_L0 at hw
  exact hw (fun x4 M => rG p l e R s m args below meth c cells slots Qs D aC ad 5 37 [(0, vR 12), (2, vJ x2), (4, vI x4)] [] M) (fun x4 M hb => s_m_feed_B0 hC hQ (fun _ _ h => h) hb)
def w_m_feed (M : Mem) (x1 : Int) (x2 : Int) (Q : Int → Mem → Prop) : Prop :=
  (-2147483648 ≤ x1 ∧ x1 ≤ 2147483647) ∧ (w_m_in M x1 1 8 (fun a2 => (-2147483648 ≤ a2 ∧ a2 ≤ 2147483647) ∧ ((¬ (a2 = 0) → ∀ a6 : Int, a6 = M 12 60 → 0 ≤ a6 → a6 ≤ 200 → (-2147483648 ≤ a6 + x1 ∧ a6 + x1 ≤ 2147483647) ∧ ((a6 + x1 ≤ 200 → w_m_feed_L0 Q x2 (x1 - 1) M) ∧ (¬ (a6 + x1 ≤ 200) → Q (-1004) M))) ∧ (a2 = 0 → Q (-1002) M))))
set_option maxRecDepth 100000 in
set_option maxHeartbeats 4000000 in
theorem s_m_feed {M : Mem} {x1 : Int} {x2 : Int} {Q : Int → Mem → Prop} (hC : rC p R s m args meth c cells slots D aC ad 5 cX12_feed RX12 1 25 (some .int)) (hQ : ∀ (pc : Nat) (L : List (Nat × RV)) (z : Int) (M : Mem), decode cX12_feed pc = .ok (.ireturn, 1) → Q z M → rG p l e R s m args below meth c cells slots Qs D aC ad 5 pc L [vI z] M) (hw : w_m_feed M x1 x2 Q) : rG p l e R s m args below meth c cells slots Qs D aC ad 5 0 [(0, vR 12), (1, vI x1), (2, vJ x2)] [] M := by
  unfold w_m_feed at hw
  refine r_iload_n hC dX12_feed_0 rfl rfl ?_
  obtain ⟨o1, hw⟩ := hw
  refine r_i2l hC dX12_feed_1 o1.1 o1.2 ?_
  refine r_lconst hC 1 dX12_feed_2 (by decide) ?_
  refine r_ldc2 hC (8) dX12_feed_3 kL12_391 (by decide) ?_
  refine r_callS hC (d_m_in hw) kC12_in km12_165 kT12_in kN12 dd_12_in ⟨Nat.le_of_ble_eq_true rfl, Nat.le_of_ble_eq_true rfl⟩ rfl (Nat.le_of_ble_eq_true rfl) dX12_feed_6 (fun r M' hp => ?_)
  obtain ⟨rfl, a2, rfl, hw⟩ := hp
  try dsimp only at hw
  obtain ⟨o3, hw⟩ := hw
  obtain ⟨hwt, hwf⟩ := hw
  refine r_if_ne hC 16 dX12_feed_9 (by decide) o3.1 o3.2 (fun c5 => ?_) (fun c5 => ?_)
  · have hw := hwt c5
    refine r_aload_n hC dX12_feed_16 rfl rfl ?_
    refine r_getI hC 60 rfl (by decide) kf12_222 rfl rfl dX12_feed_17 (fun b7 b7' => ?_)
    replace hw := hw _ rfl b7 b7'
    refine r_iload_n hC dX12_feed_20 rfl rfl ?_
    refine r_iadd hC dX12_feed_21 ?_
    refine r_sipush hC dX12_feed_22 (by decide) ?_
    obtain ⟨o8, hw⟩ := hw
    obtain ⟨hwt, hwf⟩ := hw
    refine r_icmp_le hC 32 dX12_feed_25 (by decide) o8.1 o8.2 (by decide) (by decide) (fun c10 => ?_) (fun c10 => ?_)
    · have hw := hwt c10
      refine r_iload_n hC dX12_feed_32 rfl rfl ?_
      refine r_iconst hC dX12_feed_33 ?_
      refine r_isub hC dX12_feed_34 ?_
      refine r_istore hC dX12_feed_35 (by decide) ?_
      exact r_subk (s_m_feed_L0 hC hQ hw) ⟨rfl, rfl, rfl, trivial⟩
    · have hw := hwf c10
      refine r_sipush hC dX12_feed_28 (by decide) ?_
      exact hQ _ _ _ _ dX12_feed_31 hw
  · have hw := hwf c5
    refine r_sipush hC dX12_feed_12 (by decide) ?_
    exact hQ _ _ _ _ dX12_feed_15 hw
set_option maxRecDepth 100000 in
set_option maxHeartbeats 4000000 in
theorem d_m_feed {l : Launch} {D : va_G} {aC : Nat → ClassId} {ad : Nat → Nat} {M : Mem} {x1 : Int} {x2 : Int} {Q : Int → Mem → Prop} (hw : w_m_feed M x1 x2 Q) : Does l D aC ad yX12_feed cX12_feed 5 (some .int) 1 25 [vR 12, vI x1, vJ x2] M (pI Q) :=
  Does.of (by decide) (Nat.le_of_ble_eq_true rfl) (fun p e R s m args below meth c hC => r_subk (s_m_feed hC (fun pc L z M d h => r_iret hC d ⟨z, rfl, h⟩) hw) ⟨rfl, rfl, rfl, trivial⟩)
end
