section
variable {p : Program} {l : Launch} {e : Env} {R : Room} {s : State} {m : MethodId} {args : Array Value} {below : List Frame} {meth : Method} {c : Code} {cells slots : Nat} {Qs : State → Prop} {D : va_G} {aC : Nat → ClassId} {ad : Nat → Nat}
theorem dd_10_priceOf : yX10_priceOf.cls ≠ "java/lang/invoke/MethodHandle" ∧ yX10_priceOf.cls ≠ "java/lang/invoke/VarHandle" ∧ (parseMethodDescriptor yX10_priceOf.desc).map (fun d => d.parameters.length) = some 1 := by decide +kernel
/-- SoupSand.plan -/
def w_S_plan_j0 (Q : Int → Mem → Prop) (X38 : Int → Int → Int → Mem → Prop) (x1 : Int) (x2 : Int) (x3 : Int) (x4 : Int) (x5 : Int) (M : Mem) : Prop :=
  w_S_allStand M x4 (fun a1 M2 => (-2147483648 ≤ a1 ∧ a1 ≤ 2147483647) ∧ ((a1 = 0 → X38 x2 x3 (x4 + 1) M2) ∧ (¬ (a1 = 0) → X38 x4 x5 (x4 + 1) M2)))
set_option maxRecDepth 100000 in
set_option maxHeartbeats 4000000 in
theorem s_S_plan_j0 {Q : Int → Mem → Prop} {X38 : Int → Int → Int → Mem → Prop} {x1 : Int} {x2 : Int} {x3 : Int} {x4 : Int} {x5 : Int} {M : Mem} (hC : rC p R s m args meth c cells slots D aC ad 6 cX11_plan RX11 6 143 (some .int)) (hQ : ∀ (pc : Nat) (L : List (Nat × RV)) (z : Int) (M : Mem), decode cX11_plan pc = .ok (.ireturn, 1) → Q z M → rG p l e R s m args below meth c cells slots Qs D aC ad 6 pc L [vI z] M) (hX38 : ∀ (x2 : Int) (x3 : Int) (x4 : Int) (M : Mem), X38 x2 x3 x4 M → rG p l e R s m args below meth c cells slots Qs D aC ad 6 38 [(0, vR 0), (1, vI x1), (2, vI x2), (3, vI x3), (4, vI x4)] [] M) (hw : w_S_plan_j0 Q X38 x1 x2 x3 x4 x5 M) : rG p l e R s m args below meth c cells slots Qs D aC ad 6 74 [(0, vR 0), (1, vI x1), (2, vI x2), (3, vI x3), (4, vI x4), (5, vI x5)] [] M := by
  unfold w_S_plan_j0 at hw
  refine r_aload_n hC dX11_plan_74 rfl rfl ?_
  refine r_iload hC dX11_plan_75 rfl ?_
  refine r_callV hC (d_S_allStand hw) rfl kC11_allStand km11_390 kI11_allStand kS11_allStand kN11 dd_11_allStand ⟨Nat.le_of_ble_eq_true rfl, Nat.le_of_ble_eq_true rfl⟩ rfl (Nat.le_of_ble_eq_true rfl) dX11_plan_77 (fun r M' hp => ?_)
  obtain ⟨a1, rfl, hw⟩ := hp
  try dsimp only at hw
  obtain ⟨o3, hw⟩ := hw
  obtain ⟨hwt, hwf⟩ := hw
  refine r_if_eq hC 89 dX11_plan_80 (by decide) o3.1 o3.2 (fun c5 => ?_) (fun c5 => ?_)
  · have hw := hwt c5
    refine r_iinc hC dX11_plan_89 rfl (by decide) ?_
    refine r_goto hC 38 dX11_plan_92 (by decide) ?_
    exact r_subk (hX38 _ _ _ _ hw) ⟨rfl, rfl, rfl, rfl, rfl, trivial⟩
  · have hw := hwf c5
    refine r_iload hC dX11_plan_83 rfl ?_
    refine r_istore_n hC dX11_plan_85 rfl (by decide) ?_
    refine r_iload hC dX11_plan_86 rfl ?_
    refine r_istore_n hC dX11_plan_88 rfl (by decide) ?_
    refine r_iinc hC dX11_plan_89 rfl (by decide) ?_
    refine r_goto hC 38 dX11_plan_92 (by decide) ?_
    exact r_subk (hX38 _ _ _ _ hw) ⟨rfl, rfl, rfl, rfl, rfl, trivial⟩
def w_S_plan_B0 (Q : Int → Mem → Prop) (x1 : Int) (X38 : Int → Int → Int → Mem → Prop) (x2 : Int) (x3 : Int) (x4 : Int) (M : Mem) : Prop :=
  ∀ a1 : Int, a1 = M 8 5 → 0 ≤ a1 → a1 ≤ 6 → (-2147483648 ≤ x4 ∧ x4 ≤ 2147483647) ∧ ((-2147483648 ≤ bShl 1 a1 ∧ bShl 1 a1 ≤ 2147483647) ∧ ((bShl 1 a1 ≤ x4 → (-2147483648 ≤ x1 ∧ x1 ≤ 2147483647) ∧ ((¬ (x1 = 0) → Q x3 M) ∧ (x1 = 0 → Q x2 M))) ∧ (¬ (bShl 1 a1 ≤ x4) → w_Works_priceOf M x4 (fun a9 => (-2147483648 ≤ x2 ∧ x2 ≤ 2147483647) ∧ ((x2 = (-1) → w_S_plan_j0 Q X38 x1 x2 x3 x4 a9 M) ∧ (¬ (x2 = (-1)) → (-2147483648 ≤ a9 ∧ a9 ≤ 2147483647) ∧ ((-2147483648 ≤ x3 ∧ x3 ≤ 2147483647) ∧ ((x3 ≤ a9 → X38 x2 x3 (x4 + 1) M) ∧ (¬ (x3 ≤ a9) → w_S_plan_j0 Q X38 x1 x2 x3 x4 a9 M)))))))))
set_option maxRecDepth 100000 in
set_option maxHeartbeats 4000000 in
theorem s_S_plan_B0 {Q : Int → Mem → Prop} {x1 : Int} {X38 : Int → Int → Int → Mem → Prop} {x2 : Int} {x3 : Int} {x4 : Int} {M : Mem} (hC : rC p R s m args meth c cells slots D aC ad 6 cX11_plan RX11 6 143 (some .int)) (hQ : ∀ (pc : Nat) (L : List (Nat × RV)) (z : Int) (M : Mem), decode cX11_plan pc = .ok (.ireturn, 1) → Q z M → rG p l e R s m args below meth c cells slots Qs D aC ad 6 pc L [vI z] M) (hX38 : ∀ (x2 : Int) (x3 : Int) (x4 : Int) (M : Mem), X38 x2 x3 x4 M → rG p l e R s m args below meth c cells slots Qs D aC ad 6 38 [(0, vR 0), (1, vI x1), (2, vI x2), (3, vI x3), (4, vI x4)] [] M) (hw : w_S_plan_B0 Q x1 X38 x2 x3 x4 M) : rG p l e R s m args below meth c cells slots Qs D aC ad 6 38 [(0, vR 0), (1, vI x1), (2, vI x2), (3, vI x3), (4, vI x4)] [] M := by
  unfold w_S_plan_B0 at hw
  refine r_iload hC dX11_plan_38 rfl ?_
  refine r_iconst hC dX11_plan_40 ?_
  refine r_aload_n hC dX11_plan_41 rfl rfl ?_
  refine r_getR hC 7 rfl (by decide) kf11_55 rfl rfl dX11_plan_42 ?_
  refine r_getI hC 5 rfl (by decide) kf11_171 rfl rfl dX11_plan_45 (fun b2 b2' => ?_)
  replace hw := hw _ rfl b2 b2'
  refine r_ishl hC dX11_plan_48 ?_
  obtain ⟨o3, hw⟩ := hw
  obtain ⟨o4, hw⟩ := hw
  obtain ⟨hwt, hwf⟩ := hw
  refine r_icmp_ge hC 95 dX11_plan_49 (by decide) o3.1 o3.2 o4.1 o4.2 (fun c5 => ?_) (fun c5 => ?_)
  · have hw := hwt c5
    refine r_iload_n hC dX11_plan_95 rfl rfl ?_
    obtain ⟨o6, hw⟩ := hw
    obtain ⟨hwt, hwf⟩ := hw
    refine r_if_ne hC 103 dX11_plan_96 (by decide) o6.1 o6.2 (fun c8 => ?_) (fun c8 => ?_)
    · have hw := hwt c8
      refine r_iload_n hC dX11_plan_103 rfl rfl ?_
      exact hQ _ _ _ _ dX11_plan_104 hw
    · have hw := hwf c8
      refine r_iload_n hC dX11_plan_99 rfl rfl ?_
      refine r_goto hC 104 dX11_plan_100 (by decide) ?_
      exact hQ _ _ _ _ dX11_plan_104 hw
  · have hw := hwf c5
    refine r_aload_n hC dX11_plan_52 rfl rfl ?_
    refine r_getR hC 7 rfl (by decide) kf11_55 rfl rfl dX11_plan_53 ?_
    refine r_iload hC dX11_plan_56 rfl ?_
    refine r_callV hC (d_Works_priceOf hw) rfl kC10_priceOf km11_393 kI10_priceOf kS10_priceOf kN10 dd_10_priceOf ⟨Nat.le_of_ble_eq_true rfl, Nat.le_of_ble_eq_true rfl⟩ rfl (Nat.le_of_ble_eq_true rfl) dX11_plan_58 (fun r M' hp => ?_)
    obtain ⟨rfl, a9, rfl, hw⟩ := hp
    try dsimp only at hw
    refine r_istore hC dX11_plan_61 (by decide) ?_
    refine r_iload_n hC dX11_plan_63 rfl rfl ?_
    refine r_iconst hC dX11_plan_64 ?_
    obtain ⟨o10, hw⟩ := hw
    obtain ⟨hwt, hwf⟩ := hw
    refine r_icmp_eq hC 74 dX11_plan_65 (by decide) o10.1 o10.2 (by decide) (by decide) (fun c12 => ?_) (fun c12 => ?_)
    · have hw := hwt c12
      exact r_subk (s_S_plan_j0 hC hQ hX38 hw) ⟨rfl, rfl, rfl, rfl, rfl, rfl, trivial⟩
    · have hw := hwf c12
      refine r_iload hC dX11_plan_68 rfl ?_
      refine r_iload_n hC dX11_plan_70 rfl rfl ?_
      obtain ⟨o13, hw⟩ := hw
      obtain ⟨o14, hw⟩ := hw
      obtain ⟨hwt, hwf⟩ := hw
      refine r_icmp_ge hC 89 dX11_plan_71 (by decide) o13.1 o13.2 o14.1 o14.2 (fun c15 => ?_) (fun c15 => ?_)
      · have hw := hwt c15
        refine r_iinc hC dX11_plan_89 rfl (by decide) ?_
        refine r_goto hC 38 dX11_plan_92 (by decide) ?_
        exact r_subk (hX38 _ _ _ _ hw) ⟨rfl, rfl, rfl, rfl, rfl, trivial⟩
      · have hw := hwf c15
        exact r_subk (s_S_plan_j0 hC hQ hX38 hw) ⟨rfl, rfl, rfl, rfl, rfl, rfl, trivial⟩
def w_S_plan_L0 (Q : Int → Mem → Prop) (x1 : Int) (x2 : Int) (x3 : Int) (x4 : Int) (M : Mem) : Prop :=
  ∀ X : Int → Int → Int → Mem → Prop, (∀ (x2 : Int) (x3 : Int) (x4 : Int) (M : Mem), w_S_plan_B0 Q x1 X x2 x3 x4 M → X x2 x3 x4 M) → X x2 x3 x4 M
set_option maxRecDepth 100000 in
set_option maxHeartbeats 4000000 in
theorem s_S_plan_L0 {Q : Int → Mem → Prop} {x1 : Int} {x2 : Int} {x3 : Int} {x4 : Int} {M : Mem} (hC : rC p R s m args meth c cells slots D aC ad 6 cX11_plan RX11 6 143 (some .int)) (hQ : ∀ (pc : Nat) (L : List (Nat × RV)) (z : Int) (M : Mem), decode cX11_plan pc = .ok (.ireturn, 1) → Q z M → rG p l e R s m args below meth c cells slots Qs D aC ad 6 pc L [vI z] M) (hw : w_S_plan_L0 Q x1 x2 x3 x4 M) : rG p l e R s m args below meth c cells slots Qs D aC ad 6 38 [(0, vR 0), (1, vI x1), (2, vI x2), (3, vI x3), (4, vI x4)] [] M := by
  unfold w_S_plan_L0 at hw
  exact hw (fun x2 x3 x4 M => rG p l e R s m args below meth c cells slots Qs D aC ad 6 38 [(0, vR 0), (1, vI x1), (2, vI x2), (3, vI x3), (4, vI x4)] [] M) (fun x2 x3 x4 M hb => s_S_plan_B0 hC hQ (fun _ _ _ _ h => h) hb)
def w_S_plan (M : Mem) (x1 : Int) (Q : Int → Mem → Prop) : Prop :=
  w_S_beyond M x1 0 1 (fun a1 => (-2147483648 ≤ a1 ∧ a1 ≤ 2147483647) ∧ ((a1 = 0 → w_S_housesQuarrel M (fun a5 M6 => (-2147483648 ≤ a5 ∧ a5 ≤ 2147483647) ∧ ((a5 = 0 → w_Works_forgetVerdicts M6 (fun M11 => w_S_plan_L0 Q x1 (-1) (-1) 0 M11)) ∧ (¬ (a5 = 0) → Q (-1005) M6)))) ∧ (¬ (a1 = 0) → Q (-1002) M)))
set_option maxRecDepth 100000 in
set_option maxHeartbeats 4000000 in
theorem s_S_plan {M : Mem} {x1 : Int} {Q : Int → Mem → Prop} (hC : rC p R s m args meth c cells slots D aC ad 6 cX11_plan RX11 6 143 (some .int)) (hQ : ∀ (pc : Nat) (L : List (Nat × RV)) (z : Int) (M : Mem), decode cX11_plan pc = .ok (.ireturn, 1) → Q z M → rG p l e R s m args below meth c cells slots Qs D aC ad 6 pc L [vI z] M) (hw : w_S_plan M x1 Q) : rG p l e R s m args below meth c cells slots Qs D aC ad 6 0 [(0, vR 0), (1, vI x1)] [] M := by
  unfold w_S_plan at hw
  refine r_iload_n hC dX11_plan_0 rfl rfl ?_
  refine r_iconst hC dX11_plan_1 ?_
  refine r_iconst hC dX11_plan_2 ?_
  refine r_callS hC (d_S_beyond hw) kC11_beyond km11_86 kT11_beyond kN11 dd_11_beyond ⟨Nat.le_of_ble_eq_true rfl, Nat.le_of_ble_eq_true rfl⟩ rfl (Nat.le_of_ble_eq_true rfl) dX11_plan_3 (fun r M' hp => ?_)
  obtain ⟨rfl, a1, rfl, hw⟩ := hp
  try dsimp only at hw
  obtain ⟨o2, hw⟩ := hw
  obtain ⟨hwt, hwf⟩ := hw
  refine r_if_eq hC 13 dX11_plan_6 (by decide) o2.1 o2.2 (fun c4 => ?_) (fun c4 => ?_)
  · have hw := hwt c4
    refine r_aload_n hC dX11_plan_13 rfl rfl ?_
    refine r_callV hC (d_S_housesQuarrel hw) rfl kC11_housesQuarrel km11_383 kI11_housesQuarrel kS11_housesQuarrel kN11 dd_11_housesQuarrel ⟨Nat.le_of_ble_eq_true rfl, Nat.le_of_ble_eq_true rfl⟩ rfl (Nat.le_of_ble_eq_true rfl) dX11_plan_14 (fun r M' hp => ?_)
    obtain ⟨a5, rfl, hw⟩ := hp
    try dsimp only at hw
    obtain ⟨o7, hw⟩ := hw
    obtain ⟨hwt, hwf⟩ := hw
    refine r_if_eq hC 24 dX11_plan_17 (by decide) o7.1 o7.2 (fun c9 => ?_) (fun c9 => ?_)
    · have hw := hwt c9
      refine r_aload_n hC dX11_plan_24 rfl rfl ?_
      refine r_getR hC 7 rfl (by decide) kf11_55 rfl rfl dX11_plan_25 ?_
      refine r_callV hC (d_Works_forgetVerdicts hw) rfl kC10_forgetVerdicts km11_387 kI10_forgetVerdicts kS10_forgetVerdicts kN10 dd_10_forgetVerdicts ⟨Nat.le_of_ble_eq_true rfl, Nat.le_of_ble_eq_true rfl⟩ rfl (Nat.le_of_ble_eq_true rfl) dX11_plan_28 (fun r M' hp => ?_)
      obtain ⟨rfl, hw⟩ := hp
      try dsimp only at hw
      refine r_iconst hC dX11_plan_31 ?_
      refine r_istore_n hC dX11_plan_32 rfl (by decide) ?_
      refine r_iconst hC dX11_plan_33 ?_
      refine r_istore_n hC dX11_plan_34 rfl (by decide) ?_
      refine r_iconst hC dX11_plan_35 ?_
      refine r_istore hC dX11_plan_36 (by decide) ?_
      exact r_subk (s_S_plan_L0 hC hQ hw) ⟨rfl, rfl, rfl, rfl, rfl, trivial⟩
    · have hw := hwf c9
      refine r_sipush hC dX11_plan_20 (by decide) ?_
      exact hQ _ _ _ _ dX11_plan_23 hw
  · have hw := hwf c4
    refine r_sipush hC dX11_plan_9 (by decide) ?_
    exact hQ _ _ _ _ dX11_plan_12 hw
set_option maxRecDepth 100000 in
set_option maxHeartbeats 4000000 in
theorem d_S_plan {l : Launch} {D : va_G} {aC : Nat → ClassId} {ad : Nat → Nat} {M : Mem} {x1 : Int} {Q : Int → Mem → Prop} (hw : w_S_plan M x1 Q) : Does l D aC ad yX11_plan cX11_plan 6 (some .int) 6 143 [vR 0, vI x1] M (pI Q) :=
  Does.of (by decide) (Nat.le_of_ble_eq_true rfl) (fun p e R s m args below meth c hC => r_subk (s_S_plan hC (fun pc L z M d h => r_iret hC d ⟨z, rfl, h⟩) hw) ⟨rfl, rfl, trivial⟩)
/-- SoupSand.loss -/
def w_S_loss_B1 (Q : Int → Mem → Prop) (X15 : Int → Int → Mem → Prop) (x3 : Int) (X29 : Int → Int → Mem → Prop) (x1 : Int) (x4 : Int) (M : Mem) : Prop :=
  ∀ a1 : Int, a1 = M 3 3 → 0 ≤ a1 → a1 ≤ 6 → (-2147483648 ≤ x4 ∧ x4 ≤ 2147483647) ∧ ((a1 ≤ x4 → X15 x1 (x3 + 1) M) ∧ (¬ (a1 ≤ x4) → w_S_surveyHouse M x3 x4 (fun M7 => (0 ≤ x4 ∧ x4 < 6) ∧ (∀ a9 : Int, a9 = M7 27 x4 → 0 ≤ a9 → a9 ≤ 1000 → (0 ≤ x3 ∧ x3 < 8) ∧ (∀ a13 : Int, a13 = M7 40 x3 → 0 ≤ a13 → a13 ≤ 9999 → ∀ a16 : Int, a16 = M7 9 2 → -1125899906842624 ≤ a16 → a16 ≤ 1125899906842624 → (a16 ≤ 0 → X29 x1 (x4 + 1) M7) ∧ (¬ (a16 ≤ 0) → ∀ a21 : Int, a21 = M7 9 3 → -1125899906842624 ≤ a21 → a21 ≤ 1125899906842624 → ∀ a23 : Int, a23 = M7 9 2 → -1125899906842624 ≤ a23 → a23 ≤ 1125899906842624 → ((0 ≤ (a9 * a13) * a21 ∧ (a9 * a13) * a21 ≤ 9223372036854775807) ∧ (0 < a23 ∧ a23 ≤ 9223372036854775807)) ∧ (X29 (x1 + (((a9 * a13) * a21) / a23)) (x4 + 1) M7)))))))
set_option maxRecDepth 100000 in
set_option maxHeartbeats 4000000 in
theorem s_S_loss_B1 {Q : Int → Mem → Prop} {X15 : Int → Int → Mem → Prop} {x3 : Int} {X29 : Int → Int → Mem → Prop} {x1 : Int} {x4 : Int} {M : Mem} (hC : rC p R s m args meth c cells slots D aC ad 7 cX11_loss RX11 6 146 (some .long)) (hQ : ∀ (pc : Nat) (L : List (Nat × RV)) (z : Int) (M : Mem), decode cX11_loss pc = .ok (.lreturn, 1) → Q z M → rG p l e R s m args below meth c cells slots Qs D aC ad 7 pc L [vJ z] M) (hX15 : ∀ (x1 : Int) (x3 : Int) (M : Mem), X15 x1 x3 M → rG p l e R s m args below meth c cells slots Qs D aC ad 7 15 [(0, vR 0), (1, vJ x1), (3, vI x3)] [] M) (hX29 : ∀ (x1 : Int) (x4 : Int) (M : Mem), X29 x1 x4 M → rG p l e R s m args below meth c cells slots Qs D aC ad 7 29 [(0, vR 0), (1, vJ x1), (3, vI x3), (4, vI x4)] [] M) (hw : w_S_loss_B1 Q X15 x3 X29 x1 x4 M) : rG p l e R s m args below meth c cells slots Qs D aC ad 7 29 [(0, vR 0), (1, vJ x1), (3, vI x3), (4, vI x4)] [] M := by
  unfold w_S_loss_B1 at hw
  refine r_iload hC dX11_loss_29 rfl ?_
  refine r_aload_n hC dX11_loss_31 rfl rfl ?_
  refine r_getR hC 2 rfl (by decide) kf11_25 rfl rfl dX11_loss_32 ?_
  refine r_getI hC 3 rfl (by decide) kf11_137 rfl rfl dX11_loss_35 (fun b2 b2' => ?_)
  replace hw := hw _ rfl b2 b2'
  obtain ⟨o3, hw⟩ := hw
  obtain ⟨hwt, hwf⟩ := hw
  refine r_icmp_ge hC 111 dX11_loss_38 (by decide) o3.1 o3.2 (by omega) (by omega) (fun c5 => ?_) (fun c5 => ?_)
  · have hw := hwt c5
    refine r_iinc hC dX11_loss_111 rfl (by decide) ?_
    refine r_goto hC 15 dX11_loss_114 (by decide) ?_
    exact r_subk (hX15 _ _ _ hw) ⟨rfl, rfl, rfl, trivial⟩
  · have hw := hwf c5
    refine r_aload_n hC dX11_loss_41 rfl rfl ?_
    refine r_iload_n hC dX11_loss_42 rfl rfl ?_
    refine r_iload hC dX11_loss_43 rfl ?_
    refine r_callV hC (d_S_surveyHouse hw) rfl kC11_surveyHouse km11_286 kI11_surveyHouse kS11_surveyHouse kN11 dd_11_surveyHouse ⟨Nat.le_of_ble_eq_true rfl, Nat.le_of_ble_eq_true rfl⟩ rfl (Nat.le_of_ble_eq_true rfl) dX11_loss_45 (fun r M' hp => ?_)
    obtain ⟨rfl, hw⟩ := hp
    try dsimp only at hw
    refine r_aload_n hC dX11_loss_48 rfl rfl ?_
    refine r_getR hC 2 rfl (by decide) kf11_25 rfl rfl dX11_loss_49 ?_
    refine r_getR hC 0 rfl (by decide) kf11_396 rfl rfl dX11_loss_52 ?_
    refine r_iload hC dX11_loss_55 rfl ?_
    obtain ⟨o8, hw⟩ := hw
    refine r_iald hC rfl o8.1 o8.2 (by decide) (by decide) dX11_loss_57 (fun b10 b10' => ?_)
    replace hw := hw _ rfl b10 b10'
    refine r_i2l hC dX11_loss_58 (by omega) (by omega) ?_
    refine r_aload_n hC dX11_loss_59 rfl rfl ?_
    refine r_getR hC 5 rfl (by decide) kf11_41 rfl rfl dX11_loss_60 ?_
    refine r_getR hC 2 rfl (by decide) kf11_399 rfl rfl dX11_loss_63 ?_
    refine r_iload_n hC dX11_loss_66 rfl rfl ?_
    obtain ⟨o12, hw⟩ := hw
    refine r_iald hC rfl o12.1 o12.2 (by decide) (by decide) dX11_loss_67 (fun b14 b14' => ?_)
    replace hw := hw _ rfl b14 b14'
    refine r_i2l hC dX11_loss_68 (by omega) (by omega) ?_
    refine r_lmul hC dX11_loss_69 ?_
    refine r_lstore hC dX11_loss_70 (by decide) ?_
    refine r_aload_n hC dX11_loss_72 rfl rfl ?_
    refine r_getR hC 8 rfl (by decide) kf11_62 rfl rfl dX11_loss_73 ?_
    refine r_getJ hC 2 rfl (by decide) kf11_402 rfl rfl dX11_loss_76 (fun b17 b17' => ?_)
    replace hw := hw _ rfl b17 b17'
    refine r_lconst hC 0 dX11_loss_79 (by decide) ?_
    obtain ⟨hwt, hwf⟩ := hw
    refine r_lcmp_le hC 105 dX11_loss_80 dX11_loss_81 (by decide) (by omega) (by omega) (by decide) (by decide) (fun c20 => ?_) (fun c20 => ?_)
    · have hw := hwt c20
      refine r_iinc hC dX11_loss_105 rfl (by decide) ?_
      refine r_goto hC 29 dX11_loss_108 (by decide) ?_
      exact r_subk (hX29 _ _ _ hw) ⟨rfl, rfl, rfl, rfl, trivial⟩
    · have hw := hwf c20
      refine r_lload_n hC dX11_loss_84 rfl rfl ?_
      refine r_lload hC dX11_loss_85 rfl ?_
      refine r_aload_n hC dX11_loss_87 rfl rfl ?_
      refine r_getR hC 8 rfl (by decide) kf11_62 rfl rfl dX11_loss_88 ?_
      refine r_getJ hC 3 rfl (by decide) kf11_404 rfl rfl dX11_loss_91 (fun b22 b22' => ?_)
      replace hw := hw _ rfl b22 b22'
      refine r_lmul hC dX11_loss_94 ?_
      refine r_aload_n hC dX11_loss_95 rfl rfl ?_
      refine r_getR hC 8 rfl (by decide) kf11_62 rfl rfl dX11_loss_96 ?_
      refine r_getJ hC 2 rfl (by decide) kf11_402 rfl rfl dX11_loss_99 (fun b24 b24' => ?_)
      replace hw := hw _ rfl b24 b24'
      obtain ⟨o25, hw⟩ := hw
      refine r_ldiv hC dX11_loss_102 o25.1.1 o25.1.2 o25.2.1 o25.2.2 ?_
      refine r_ladd hC dX11_loss_103 ?_
      refine r_lstore_n hC dX11_loss_104 rfl (by decide) ?_
      refine r_iinc hC dX11_loss_105 rfl (by decide) ?_
      refine r_goto hC 29 dX11_loss_108 (by decide) ?_
      exact r_subk (hX29 _ _ _ hw) ⟨rfl, rfl, rfl, rfl, trivial⟩
def w_S_loss_L1 (Q : Int → Mem → Prop) (X15 : Int → Int → Mem → Prop) (x3 : Int) (x1 : Int) (x4 : Int) (M : Mem) : Prop :=
  ∀ X : Int → Int → Mem → Prop, (∀ (x1 : Int) (x4 : Int) (M : Mem), w_S_loss_B1 Q X15 x3 X x1 x4 M → X x1 x4 M) → X x1 x4 M
set_option maxRecDepth 100000 in
set_option maxHeartbeats 4000000 in
theorem s_S_loss_L1 {Q : Int → Mem → Prop} {X15 : Int → Int → Mem → Prop} {x3 : Int} {x1 : Int} {x4 : Int} {M : Mem} (hC : rC p R s m args meth c cells slots D aC ad 7 cX11_loss RX11 6 146 (some .long)) (hQ : ∀ (pc : Nat) (L : List (Nat × RV)) (z : Int) (M : Mem), decode cX11_loss pc = .ok (.lreturn, 1) → Q z M → rG p l e R s m args below meth c cells slots Qs D aC ad 7 pc L [vJ z] M) (hX15 : ∀ (x1 : Int) (x3 : Int) (M : Mem), X15 x1 x3 M → rG p l e R s m args below meth c cells slots Qs D aC ad 7 15 [(0, vR 0), (1, vJ x1), (3, vI x3)] [] M) (hw : w_S_loss_L1 Q X15 x3 x1 x4 M) : rG p l e R s m args below meth c cells slots Qs D aC ad 7 29 [(0, vR 0), (1, vJ x1), (3, vI x3), (4, vI x4)] [] M := by
  unfold w_S_loss_L1 at hw
  exact hw (fun x1 x4 M => rG p l e R s m args below meth c cells slots Qs D aC ad 7 29 [(0, vR 0), (1, vJ x1), (3, vI x3), (4, vI x4)] [] M) (fun x1 x4 M hb => s_S_loss_B1 hC hQ hX15 (fun _ _ _ h => h) hb)
def w_S_loss_B0 (Q : Int → Mem → Prop) (X15 : Int → Int → Mem → Prop) (x1 : Int) (x3 : Int) (M : Mem) : Prop :=
  ∀ a1 : Int, a1 = M 6 3 → 0 ≤ a1 → a1 ≤ 8 → (-2147483648 ≤ x3 ∧ x3 ≤ 2147483647) ∧ ((a1 ≤ x3 → Q x1 M) ∧ (¬ (a1 ≤ x3) → w_S_loss_L1 Q X15 x3 x1 0 M))
set_option maxRecDepth 100000 in
set_option maxHeartbeats 4000000 in
theorem s_S_loss_B0 {Q : Int → Mem → Prop} {X15 : Int → Int → Mem → Prop} {x1 : Int} {x3 : Int} {M : Mem} (hC : rC p R s m args meth c cells slots D aC ad 7 cX11_loss RX11 6 146 (some .long)) (hQ : ∀ (pc : Nat) (L : List (Nat × RV)) (z : Int) (M : Mem), decode cX11_loss pc = .ok (.lreturn, 1) → Q z M → rG p l e R s m args below meth c cells slots Qs D aC ad 7 pc L [vJ z] M) (hX15 : ∀ (x1 : Int) (x3 : Int) (M : Mem), X15 x1 x3 M → rG p l e R s m args below meth c cells slots Qs D aC ad 7 15 [(0, vR 0), (1, vJ x1), (3, vI x3)] [] M) (hw : w_S_loss_B0 Q X15 x1 x3 M) : rG p l e R s m args below meth c cells slots Qs D aC ad 7 15 [(0, vR 0), (1, vJ x1), (3, vI x3)] [] M := by
  unfold w_S_loss_B0 at hw
  refine r_iload_n hC dX11_loss_15 rfl rfl ?_
  refine r_aload_n hC dX11_loss_16 rfl rfl ?_
  refine r_getR hC 5 rfl (by decide) kf11_41 rfl rfl dX11_loss_17 ?_
  refine r_getI hC 3 rfl (by decide) kf11_169 rfl rfl dX11_loss_20 (fun b2 b2' => ?_)
  replace hw := hw _ rfl b2 b2'
  obtain ⟨o3, hw⟩ := hw
  obtain ⟨hwt, hwf⟩ := hw
  refine r_icmp_ge hC 117 dX11_loss_23 (by decide) o3.1 o3.2 (by omega) (by omega) (fun c5 => ?_) (fun c5 => ?_)
  · have hw := hwt c5
    refine r_lload_n hC dX11_loss_117 rfl rfl ?_
    exact hQ _ _ _ _ dX11_loss_118 hw
  · have hw := hwf c5
    refine r_iconst hC dX11_loss_26 ?_
    refine r_istore hC dX11_loss_27 (by decide) ?_
    exact r_subk (s_S_loss_L1 hC hQ hX15 hw) ⟨rfl, rfl, rfl, rfl, trivial⟩
def w_S_loss_L0 (Q : Int → Mem → Prop) (x1 : Int) (x3 : Int) (M : Mem) : Prop :=
  ∀ X : Int → Int → Mem → Prop, (∀ (x1 : Int) (x3 : Int) (M : Mem), w_S_loss_B0 Q X x1 x3 M → X x1 x3 M) → X x1 x3 M
set_option maxRecDepth 100000 in
set_option maxHeartbeats 4000000 in
theorem s_S_loss_L0 {Q : Int → Mem → Prop} {x1 : Int} {x3 : Int} {M : Mem} (hC : rC p R s m args meth c cells slots D aC ad 7 cX11_loss RX11 6 146 (some .long)) (hQ : ∀ (pc : Nat) (L : List (Nat × RV)) (z : Int) (M : Mem), decode cX11_loss pc = .ok (.lreturn, 1) → Q z M → rG p l e R s m args below meth c cells slots Qs D aC ad 7 pc L [vJ z] M) (hw : w_S_loss_L0 Q x1 x3 M) : rG p l e R s m args below meth c cells slots Qs D aC ad 7 15 [(0, vR 0), (1, vJ x1), (3, vI x3)] [] M := by
  unfold w_S_loss_L0 at hw
  exact hw (fun x1 x3 M => rG p l e R s m args below meth c cells slots Qs D aC ad 7 15 [(0, vR 0), (1, vJ x1), (3, vI x3)] [] M) (fun x1 x3 M hb => s_S_loss_B0 hC hQ (fun _ _ _ h => h) hb)
def w_S_loss (M : Mem) (Q : Int → Mem → Prop) : Prop :=
  w_S_housesQuarrel M (fun a1 M2 => (-2147483648 ≤ a1 ∧ a1 ≤ 2147483647) ∧ ((a1 = 0 → w_S_loss_L0 Q 0 0 M2) ∧ (¬ (a1 = 0) → Q (-1005) M2)))
set_option maxRecDepth 100000 in
set_option maxHeartbeats 4000000 in
theorem s_S_loss {M : Mem} {Q : Int → Mem → Prop} (hC : rC p R s m args meth c cells slots D aC ad 7 cX11_loss RX11 6 146 (some .long)) (hQ : ∀ (pc : Nat) (L : List (Nat × RV)) (z : Int) (M : Mem), decode cX11_loss pc = .ok (.lreturn, 1) → Q z M → rG p l e R s m args below meth c cells slots Qs D aC ad 7 pc L [vJ z] M) (hw : w_S_loss M Q) : rG p l e R s m args below meth c cells slots Qs D aC ad 7 0 [(0, vR 0)] [] M := by
  unfold w_S_loss at hw
  refine r_aload_n hC dX11_loss_0 rfl rfl ?_
  refine r_callV hC (d_S_housesQuarrel hw) rfl kC11_housesQuarrel km11_383 kI11_housesQuarrel kS11_housesQuarrel kN11 dd_11_housesQuarrel ⟨Nat.le_of_ble_eq_true rfl, Nat.le_of_ble_eq_true rfl⟩ rfl (Nat.le_of_ble_eq_true rfl) dX11_loss_1 (fun r M' hp => ?_)
  obtain ⟨a1, rfl, hw⟩ := hp
  try dsimp only at hw
  obtain ⟨o3, hw⟩ := hw
  obtain ⟨hwt, hwf⟩ := hw
  refine r_if_eq hC 11 dX11_loss_4 (by decide) o3.1 o3.2 (fun c5 => ?_) (fun c5 => ?_)
  · have hw := hwt c5
    refine r_lconst hC 0 dX11_loss_11 (by decide) ?_
    refine r_lstore_n hC dX11_loss_12 rfl (by decide) ?_
    refine r_iconst hC dX11_loss_13 ?_
    refine r_istore_n hC dX11_loss_14 rfl (by decide) ?_
    exact r_subk (s_S_loss_L0 hC hQ hw) ⟨rfl, rfl, rfl, trivial⟩
  · have hw := hwf c5
    refine r_ldc2 hC (-1005) dX11_loss_7 kL11_233 (by decide) ?_
    exact hQ _ _ _ _ dX11_loss_10 hw
set_option maxRecDepth 100000 in
set_option maxHeartbeats 4000000 in
theorem d_S_loss {l : Launch} {D : va_G} {aC : Nat → ClassId} {ad : Nat → Nat} {M : Mem} {Q : Int → Mem → Prop} (hw : w_S_loss M Q) : Does l D aC ad yX11_loss cX11_loss 7 (some .long) 6 146 [vR 0] M (pJ Q) :=
  Does.of (by decide) (Nat.le_of_ble_eq_true rfl) (fun p e R s m args below meth c hC => r_subk (s_S_loss hC (fun pc L z M d h => r_lret hC d ⟨z, rfl, h⟩) hw) ⟨rfl, trivial⟩)
/-- SoupSand$Reader.append -/
def w_Reader_append_B0 (Q : Mem → Prop) (x2 : Int) (X5 : Int → Mem → Prop) (x4 : Int) (M : Mem) : Prop :=
  (-2147483648 ≤ x4 ∧ x4 ≤ 2147483647) ∧ ((x4 < 0 → Q M) ∧ (¬ (x4 < 0) → ∀ a4 : Int, a4 = M 11 1 → 0 ≤ a4 → a4 ≤ 200 → (200 ≤ a4 → Q M) ∧ (¬ (200 ≤ a4) → ∀ a9 : Int, a9 = M 11 1 → 0 ≤ a9 → a9 ≤ 200 → ((0 ≤ a9 ∧ a9 < 200) ∧ (0 ≤ lAnd (lShr x2 (8 * x4)) 255 ∧ lAnd (lShr x2 (8 * x4)) 255 ≤ 255)) ∧ (∀ M12 : Mem, M12 = mset M 52 a9 (lAnd (lShr x2 (8 * x4)) 255) → ∀ a13 : Int, a13 = M12 11 1 → 0 ≤ a13 → a13 ≤ 200 → (0 ≤ a13 + 1 ∧ a13 + 1 ≤ 200) ∧ (∀ M16 : Mem, M16 = mset M12 11 1 (a13 + 1) → X5 (x4 + (-1)) M16)))))
set_option maxRecDepth 100000 in
set_option maxHeartbeats 4000000 in
theorem s_Reader_append_B0 {Q : Mem → Prop} {x2 : Int} {X5 : Int → Mem → Prop} {x4 : Int} {M : Mem} (hC : rC p R s m args meth c cells slots D aC ad 5 cX2_append RX2 0 0 none) (hQ : ∀ (pc : Nat) (L : List (Nat × RV)) (M : Mem), decode cX2_append pc = .ok (.return_, 1) → Q M → rG p l e R s m args below meth c cells slots Qs D aC ad 5 pc L [] M) (hX5 : ∀ (x4 : Int) (M : Mem), X5 x4 M → rG p l e R s m args below meth c cells slots Qs D aC ad 5 5 [(0, vR 11), (2, vJ x2), (4, vI x4)] [] M) (hw : w_Reader_append_B0 Q x2 X5 x4 M) : rG p l e R s m args below meth c cells slots Qs D aC ad 5 5 [(0, vR 11), (2, vJ x2), (4, vI x4)] [] M := by
  unfold w_Reader_append_B0 at hw
  refine r_iload hC dX2_append_5 rfl ?_
  obtain ⟨o1, hw⟩ := hw
  obtain ⟨hwt, hwf⟩ := hw
  refine r_if_lt hC 57 dX2_append_7 (by decide) o1.1 o1.2 (fun c3 => ?_) (fun c3 => ?_)
  · have hw := hwt c3
    exact hQ _ _ _ dX2_append_57 hw
  · have hw := hwf c3
    refine r_aload_n hC dX2_append_10 rfl rfl ?_
    refine r_getI hC 1 rfl (by decide) kf2_24 rfl rfl dX2_append_11 (fun b5 b5' => ?_)
    replace hw := hw _ rfl b5 b5'
    refine r_sipush hC dX2_append_14 (by decide) ?_
    obtain ⟨hwt, hwf⟩ := hw
    refine r_icmp_ge hC 57 dX2_append_17 (by decide) (by omega) (by omega) (by decide) (by decide) (fun c8 => ?_) (fun c8 => ?_)
    · have hw := hwt c8
      exact hQ _ _ _ dX2_append_57 hw
    · have hw := hwf c8
      refine r_aload_n hC dX2_append_20 rfl rfl ?_
      refine r_getR hC 4 rfl (by decide) kf2_21 rfl rfl dX2_append_21 ?_
      refine r_aload_n hC dX2_append_24 rfl rfl ?_
      refine r_getI hC 1 rfl (by decide) kf2_24 rfl rfl dX2_append_25 (fun b10 b10' => ?_)
      replace hw := hw _ rfl b10 b10'
      refine r_lload_n hC dX2_append_28 rfl rfl ?_
      refine r_bipush hC dX2_append_29 (by decide) ?_
      refine r_iload hC dX2_append_31 rfl ?_
      refine r_imul hC dX2_append_33 ?_
      refine r_lshr hC dX2_append_34 ?_
      refine r_ldc2 hC (255) dX2_append_35 kL2_27 (by decide) ?_
      refine r_land hC dX2_append_38 ?_
      refine r_l2i hC dX2_append_39 ?_
      obtain ⟨o11, hw⟩ := hw
      refine r_iast hC rfl o11.1.1 o11.1.2 (by decide) (by decide) o11.2.1 o11.2.2 dX2_append_40 ?_
      replace hw := hw _ rfl
      refine r_aload_n hC dX2_append_41 rfl rfl ?_
      refine r_dup hC dX2_append_42 rfl ?_
      refine r_getI hC 1 rfl (by decide) kf2_24 rfl rfl dX2_append_43 (fun b14 b14' => ?_)
      replace hw := hw _ rfl b14 b14'
      refine r_iconst hC dX2_append_46 ?_
      refine r_iadd hC dX2_append_47 ?_
      obtain ⟨o15, hw⟩ := hw
      refine r_putI hC 1 rfl (by decide) kf2_24 rfl rfl o15.1 o15.2 dX2_append_48 ?_
      replace hw := hw _ rfl
      refine r_iinc hC dX2_append_51 rfl (by decide) ?_
      refine r_goto hC 5 dX2_append_54 (by decide) ?_
      exact r_subk (hX5 _ _ hw) ⟨rfl, rfl, rfl, trivial⟩
def w_Reader_append_L0 (Q : Mem → Prop) (x2 : Int) (x4 : Int) (M : Mem) : Prop :=
  ∀ X : Int → Mem → Prop, (∀ (x4 : Int) (M : Mem), w_Reader_append_B0 Q x2 X x4 M → X x4 M) → X x4 M
set_option maxRecDepth 100000 in
set_option maxHeartbeats 4000000 in
theorem s_Reader_append_L0 {Q : Mem → Prop} {x2 : Int} {x4 : Int} {M : Mem} (hC : rC p R s m args meth c cells slots D aC ad 5 cX2_append RX2 0 0 none) (hQ : ∀ (pc : Nat) (L : List (Nat × RV)) (M : Mem), decode cX2_append pc = .ok (.return_, 1) → Q M → rG p l e R s m args below meth c cells slots Qs D aC ad 5 pc L [] M) (hw : w_Reader_append_L0 Q x2 x4 M) : rG p l e R s m args below meth c cells slots Qs D aC ad 5 5 [(0, vR 11), (2, vJ x2), (4, vI x4)] [] M := by
  unfold w_Reader_append_L0 at hw
  exact hw (fun x4 M => rG p l e R s m args below meth c cells slots Qs D aC ad 5 5 [(0, vR 11), (2, vJ x2), (4, vI x4)] [] M) (fun x4 M hb => s_Reader_append_B0 hC hQ (fun _ _ h => h) hb)
def w_Reader_append (M : Mem) (x1 : Int) (x2 : Int) (Q : Mem → Prop) : Prop :=
  w_Reader_append_L0 Q x2 (x1 - 1) M
set_option maxRecDepth 100000 in
set_option maxHeartbeats 4000000 in
theorem s_Reader_append {M : Mem} {x1 : Int} {x2 : Int} {Q : Mem → Prop} (hC : rC p R s m args meth c cells slots D aC ad 5 cX2_append RX2 0 0 none) (hQ : ∀ (pc : Nat) (L : List (Nat × RV)) (M : Mem), decode cX2_append pc = .ok (.return_, 1) → Q M → rG p l e R s m args below meth c cells slots Qs D aC ad 5 pc L [] M) (hw : w_Reader_append M x1 x2 Q) : rG p l e R s m args below meth c cells slots Qs D aC ad 5 0 [(0, vR 11), (1, vI x1), (2, vJ x2)] [] M := by
  unfold w_Reader_append at hw
  refine r_iload_n hC dX2_append_0 rfl rfl ?_
  refine r_iconst hC dX2_append_1 ?_
  refine r_isub hC dX2_append_2 ?_
  refine r_istore hC dX2_append_3 (by decide) ?_
  exact r_subk (s_Reader_append_L0 hC hQ hw) ⟨rfl, rfl, rfl, trivial⟩
set_option maxRecDepth 100000 in
set_option maxHeartbeats 4000000 in
theorem d_Reader_append {l : Launch} {D : va_G} {aC : Nat → ClassId} {ad : Nat → Nat} {M : Mem} {x1 : Int} {x2 : Int} {Q : Mem → Prop} (hw : w_Reader_append M x1 x2 Q) : Does l D aC ad yX2_append cX2_append 5 none 0 0 [vR 11, vI x1, vJ x2] M (pV Q) :=
  Does.of (by decide) (Nat.le_of_ble_eq_true rfl) (fun p e R s m args below meth c hC => r_subk (s_Reader_append hC (fun pc L M d h => r_vret hC d ⟨rfl, h⟩) hw) ⟨rfl, rfl, rfl, trivial⟩)
theorem dd_2_append : yX2_append.cls ≠ "java/lang/invoke/MethodHandle" ∧ yX2_append.cls ≠ "java/lang/invoke/VarHandle" ∧ (parseMethodDescriptor yX2_append.desc).map (fun d => d.parameters.length) = some 2 := by decide +kernel
/-- SoupSand.feed -/
def w_S_feed (M : Mem) (x1 : Int) (x2 : Int) (Q : Int → Mem → Prop) : Prop :=
  w_S_beyond M x1 1 8 (fun a1 => (-2147483648 ≤ a1 ∧ a1 ≤ 2147483647) ∧ ((a1 = 0 → ∀ a5 : Int, a5 = M 11 1 → 0 ≤ a5 → a5 ≤ 200 → (-2147483648 ≤ a5 + x1 ∧ a5 + x1 ≤ 2147483647) ∧ ((a5 + x1 ≤ 200 → w_Reader_append M x1 x2 (fun M11 => ∀ a12 : Int, a12 = M11 11 1 → 0 ≤ a12 → a12 ≤ 200 → Q a12 M11)) ∧ (¬ (a5 + x1 ≤ 200) → Q (-1004) M))) ∧ (¬ (a1 = 0) → Q (-1002) M)))
set_option maxRecDepth 100000 in
set_option maxHeartbeats 4000000 in
theorem s_S_feed {M : Mem} {x1 : Int} {x2 : Int} {Q : Int → Mem → Prop} (hC : rC p R s m args meth c cells slots D aC ad 4 cX11_feed RX11 1 24 (some .int)) (hQ : ∀ (pc : Nat) (L : List (Nat × RV)) (z : Int) (M : Mem), decode cX11_feed pc = .ok (.ireturn, 1) → Q z M → rG p l e R s m args below meth c cells slots Qs D aC ad 4 pc L [vI z] M) (hw : w_S_feed M x1 x2 Q) : rG p l e R s m args below meth c cells slots Qs D aC ad 4 0 [(0, vR 0), (1, vI x1), (2, vJ x2)] [] M := by
  unfold w_S_feed at hw
  refine r_iload_n hC dX11_feed_0 rfl rfl ?_
  refine r_iconst hC dX11_feed_1 ?_
  refine r_bipush hC dX11_feed_2 (by decide) ?_
  refine r_callS hC (d_S_beyond hw) kC11_beyond km11_86 kT11_beyond kN11 dd_11_beyond ⟨Nat.le_of_ble_eq_true rfl, Nat.le_of_ble_eq_true rfl⟩ rfl (Nat.le_of_ble_eq_true rfl) dX11_feed_4 (fun r M' hp => ?_)
  obtain ⟨rfl, a1, rfl, hw⟩ := hp
  try dsimp only at hw
  obtain ⟨o2, hw⟩ := hw
  obtain ⟨hwt, hwf⟩ := hw
  refine r_if_eq hC 14 dX11_feed_7 (by decide) o2.1 o2.2 (fun c4 => ?_) (fun c4 => ?_)
  · have hw := hwt c4
    refine r_aload_n hC dX11_feed_14 rfl rfl ?_
    refine r_getR hC 10 rfl (by decide) kf11_76 rfl rfl dX11_feed_15 ?_
    refine r_getI hC 1 rfl (by decide) kf11_172 rfl rfl dX11_feed_18 (fun b6 b6' => ?_)
    replace hw := hw _ rfl b6 b6'
    refine r_iload_n hC dX11_feed_21 rfl rfl ?_
    refine r_iadd hC dX11_feed_22 ?_
    refine r_sipush hC dX11_feed_23 (by decide) ?_
    obtain ⟨o7, hw⟩ := hw
    obtain ⟨hwt, hwf⟩ := hw
    refine r_icmp_le hC 33 dX11_feed_26 (by decide) o7.1 o7.2 (by decide) (by decide) (fun c9 => ?_) (fun c9 => ?_)
    · have hw := hwt c9
      refine r_aload_n hC dX11_feed_33 rfl rfl ?_
      refine r_getR hC 10 rfl (by decide) kf11_76 rfl rfl dX11_feed_34 ?_
      refine r_iload_n hC dX11_feed_37 rfl rfl ?_
      refine r_lload_n hC dX11_feed_38 rfl rfl ?_
      refine r_callV hC (d_Reader_append hw) rfl kC2_append km11_425 kI2_append kS2_append kN2 dd_2_append ⟨Nat.le_of_ble_eq_true rfl, Nat.le_of_ble_eq_true rfl⟩ rfl (Nat.le_of_ble_eq_true rfl) dX11_feed_39 (fun r M' hp => ?_)
      obtain ⟨rfl, hw⟩ := hp
      try dsimp only at hw
      refine r_aload_n hC dX11_feed_42 rfl rfl ?_
      refine r_getR hC 10 rfl (by decide) kf11_76 rfl rfl dX11_feed_43 ?_
      refine r_getI hC 1 rfl (by decide) kf11_172 rfl rfl dX11_feed_46 (fun b13 b13' => ?_)
      replace hw := hw _ rfl b13 b13'
      exact hQ _ _ _ _ dX11_feed_49 hw
    · have hw := hwf c9
      refine r_sipush hC dX11_feed_29 (by decide) ?_
      exact hQ _ _ _ _ dX11_feed_32 hw
  · have hw := hwf c4
    refine r_sipush hC dX11_feed_10 (by decide) ?_
    exact hQ _ _ _ _ dX11_feed_13 hw
set_option maxRecDepth 100000 in
set_option maxHeartbeats 4000000 in
theorem d_S_feed {l : Launch} {D : va_G} {aC : Nat → ClassId} {ad : Nat → Nat} {M : Mem} {x1 : Int} {x2 : Int} {Q : Int → Mem → Prop} (hw : w_S_feed M x1 x2 Q) : Does l D aC ad yX11_feed cX11_feed 4 (some .int) 1 24 [vR 0, vI x1, vJ x2] M (pI Q) :=
  Does.of (by decide) (Nat.le_of_ble_eq_true rfl) (fun p e R s m args below meth c hC => r_subk (s_S_feed hC (fun pc L z M d h => r_iret hC d ⟨z, rfl, h⟩) hw) ⟨rfl, rfl, rfl, trivial⟩)
/-- SoupSand$Reader.skipBlanks -/
def w_Reader_skipBlanks_B0 (Q : Mem → Prop) (X0 : Mem → Prop) (M : Mem) : Prop :=
  ∀ a1 : Int, a1 = M 11 5 → 0 ≤ a1 → a1 ≤ 200 → ∀ a3 : Int, a3 = M 11 1 → 0 ≤ a3 → a3 ≤ 200 → (a3 ≤ a1 → Q M) ∧ (¬ (a3 ≤ a1) → ∀ a8 : Int, a8 = M 11 5 → 0 ≤ a8 → a8 ≤ 200 → (0 ≤ a8 ∧ a8 < 200) ∧ (∀ a11 : Int, a11 = M 52 a8 → 0 ≤ a11 → a11 ≤ 255 → (¬ (a11 = 32) → Q M) ∧ (a11 = 32 → ∀ a16 : Int, a16 = M 11 5 → 0 ≤ a16 → a16 ≤ 200 → (0 ≤ a16 + 1 ∧ a16 + 1 ≤ 200) ∧ (∀ M19 : Mem, M19 = mset M 11 5 (a16 + 1) → X0 M19))))
set_option maxRecDepth 100000 in
set_option maxHeartbeats 4000000 in
theorem s_Reader_skipBlanks_B0 {Q : Mem → Prop} {X0 : Mem → Prop} {M : Mem} (hC : rC p R s m args meth c cells slots D aC ad 1 cX2_skipBlanks RX2 0 0 none) (hQ : ∀ (pc : Nat) (L : List (Nat × RV)) (M : Mem), decode cX2_skipBlanks pc = .ok (.return_, 1) → Q M → rG p l e R s m args below meth c cells slots Qs D aC ad 1 pc L [] M) (hX0 : ∀ (M : Mem), X0 M → rG p l e R s m args below meth c cells slots Qs D aC ad 1 0 [(0, vR 11)] [] M) (hw : w_Reader_skipBlanks_B0 Q X0 M) : rG p l e R s m args below meth c cells slots Qs D aC ad 1 0 [(0, vR 11)] [] M := by
  unfold w_Reader_skipBlanks_B0 at hw
  refine r_aload_n hC dX2_skipBlanks_0 rfl rfl ?_
  refine r_getI hC 5 rfl (by decide) kf2_29 rfl rfl dX2_skipBlanks_1 (fun b2 b2' => ?_)
  replace hw := hw _ rfl b2 b2'
  refine r_aload_n hC dX2_skipBlanks_4 rfl rfl ?_
  refine r_getI hC 1 rfl (by decide) kf2_24 rfl rfl dX2_skipBlanks_5 (fun b4 b4' => ?_)
  replace hw := hw _ rfl b4 b4'
  obtain ⟨hwt, hwf⟩ := hw
  refine r_icmp_ge hC 38 dX2_skipBlanks_8 (by decide) (by omega) (by omega) (by omega) (by omega) (fun c7 => ?_) (fun c7 => ?_)
  · have hw := hwt c7
    exact hQ _ _ _ dX2_skipBlanks_38 hw
  · have hw := hwf c7
    refine r_aload_n hC dX2_skipBlanks_11 rfl rfl ?_
    refine r_getR hC 4 rfl (by decide) kf2_21 rfl rfl dX2_skipBlanks_12 ?_
    refine r_aload_n hC dX2_skipBlanks_15 rfl rfl ?_
    refine r_getI hC 5 rfl (by decide) kf2_29 rfl rfl dX2_skipBlanks_16 (fun b9 b9' => ?_)
    replace hw := hw _ rfl b9 b9'
    obtain ⟨o10, hw⟩ := hw
    refine r_iald hC rfl o10.1 o10.2 (by decide) (by decide) dX2_skipBlanks_19 (fun b12 b12' => ?_)
    replace hw := hw _ rfl b12 b12'
    refine r_bipush hC dX2_skipBlanks_20 (by decide) ?_
    obtain ⟨hwt, hwf⟩ := hw
    refine r_icmp_ne hC 38 dX2_skipBlanks_22 (by decide) (by omega) (by omega) (by decide) (by decide) (fun c15 => ?_) (fun c15 => ?_)
    · have hw := hwt c15
      exact hQ _ _ _ dX2_skipBlanks_38 hw
    · have hw := hwf c15
      refine r_aload_n hC dX2_skipBlanks_25 rfl rfl ?_
      refine r_dup hC dX2_skipBlanks_26 rfl ?_
      refine r_getI hC 5 rfl (by decide) kf2_29 rfl rfl dX2_skipBlanks_27 (fun b17 b17' => ?_)
      replace hw := hw _ rfl b17 b17'
      refine r_iconst hC dX2_skipBlanks_30 ?_
      refine r_iadd hC dX2_skipBlanks_31 ?_
      obtain ⟨o18, hw⟩ := hw
      refine r_putI hC 5 rfl (by decide) kf2_29 rfl rfl o18.1 o18.2 dX2_skipBlanks_32 ?_
      replace hw := hw _ rfl
      refine r_goto hC 0 dX2_skipBlanks_35 (by decide) ?_
      exact r_subk (hX0 _ hw) ⟨rfl, trivial⟩
def w_Reader_skipBlanks_L0 (Q : Mem → Prop) (M : Mem) : Prop :=
  ∀ X : Mem → Prop, (∀ (M : Mem), w_Reader_skipBlanks_B0 Q X M → X M) → X M
set_option maxRecDepth 100000 in
set_option maxHeartbeats 4000000 in
theorem s_Reader_skipBlanks_L0 {Q : Mem → Prop} {M : Mem} (hC : rC p R s m args meth c cells slots D aC ad 1 cX2_skipBlanks RX2 0 0 none) (hQ : ∀ (pc : Nat) (L : List (Nat × RV)) (M : Mem), decode cX2_skipBlanks pc = .ok (.return_, 1) → Q M → rG p l e R s m args below meth c cells slots Qs D aC ad 1 pc L [] M) (hw : w_Reader_skipBlanks_L0 Q M) : rG p l e R s m args below meth c cells slots Qs D aC ad 1 0 [(0, vR 11)] [] M := by
  unfold w_Reader_skipBlanks_L0 at hw
  exact hw (fun M => rG p l e R s m args below meth c cells slots Qs D aC ad 1 0 [(0, vR 11)] [] M) (fun M hb => s_Reader_skipBlanks_B0 hC hQ (fun _ h => h) hb)
def w_Reader_skipBlanks (M : Mem) (Q : Mem → Prop) : Prop :=
  w_Reader_skipBlanks_L0 Q M
set_option maxRecDepth 100000 in
set_option maxHeartbeats 4000000 in
theorem s_Reader_skipBlanks {M : Mem} {Q : Mem → Prop} (hC : rC p R s m args meth c cells slots D aC ad 1 cX2_skipBlanks RX2 0 0 none) (hQ : ∀ (pc : Nat) (L : List (Nat × RV)) (M : Mem), decode cX2_skipBlanks pc = .ok (.return_, 1) → Q M → rG p l e R s m args below meth c cells slots Qs D aC ad 1 pc L [] M) (hw : w_Reader_skipBlanks M Q) : rG p l e R s m args below meth c cells slots Qs D aC ad 1 0 [(0, vR 11)] [] M := by
  unfold w_Reader_skipBlanks at hw
  exact r_subk (s_Reader_skipBlanks_L0 hC hQ hw) ⟨rfl, trivial⟩
set_option maxRecDepth 100000 in
set_option maxHeartbeats 4000000 in
theorem d_Reader_skipBlanks {l : Launch} {D : va_G} {aC : Nat → ClassId} {ad : Nat → Nat} {M : Mem} {Q : Mem → Prop} (hw : w_Reader_skipBlanks M Q) : Does l D aC ad yX2_skipBlanks cX2_skipBlanks 1 none 0 0 [vR 11] M (pV Q) :=
  Does.of (by decide) (Nat.le_of_ble_eq_true rfl) (fun p e R s m args below meth c hC => r_subk (s_Reader_skipBlanks hC (fun pc L M d h => r_vret hC d ⟨rfl, h⟩) hw) ⟨rfl, trivial⟩)
/-- SoupSand$Reader.spelling -/
def w_Reader_spelling (M : Mem) (x0 : Int) (Q : Nat → Prop) : Prop :=
  (-2147483648 ≤ x0 ∧ x0 ≤ 2147483647) ∧ (((x0 < 0 ∨ 25 < x0) → Q 222) ∧ (x0 = 0 → Q 211) ∧ (x0 = 1 → Q 212) ∧ (x0 = 2 → Q 213) ∧ (x0 = 3 → Q 214) ∧ (x0 = 4 → Q 215) ∧ (x0 = 5 → Q 222) ∧ (x0 = 6 → Q 222) ∧ (x0 = 7 → Q 222) ∧ (x0 = 8 → Q 222) ∧ (x0 = 9 → Q 222) ∧ (x0 = 10 → Q 222) ∧ (x0 = 11 → Q 222) ∧ (x0 = 12 → Q 222) ∧ (x0 = 13 → Q 222) ∧ (x0 = 14 → Q 222) ∧ (x0 = 15 → Q 222) ∧ (x0 = 16 → Q 222) ∧ (x0 = 17 → Q 222) ∧ (x0 = 18 → Q 222) ∧ (x0 = 19 → Q 222) ∧ (x0 = 20 → Q 216) ∧ (x0 = 21 → Q 217) ∧ (x0 = 22 → Q 218) ∧ (x0 = 23 → Q 219) ∧ (x0 = 24 → Q 220) ∧ (x0 = 25 → Q 221))
set_option maxRecDepth 100000 in
set_option maxHeartbeats 4000000 in
theorem s_Reader_spelling {M : Mem} {x0 : Int} {Q : Nat → Prop} (hC : rC p R s m args meth c cells slots D aC ad 1 cX2_spelling RX2 0 0 (some (.object "java/lang/String"))) (hQ : ∀ (pc : Nat) (L : List (Nat × RV)) (z : Nat), decode cX2_spelling pc = .ok (.areturn, 1) → Q z → rG p l e R s m args below meth c cells slots Qs D aC ad 1 pc L [vR z] M) (hw : w_Reader_spelling M x0 Q) : rG p l e R s m args below meth c cells slots Qs D aC ad 1 0 [(0, vI x0)] [] M := by
  unfold w_Reader_spelling at hw
  refine r_iload_n hC dX2_spelling_0 rfl rfl ?_
  obtain ⟨o1, hw⟩ := hw
  obtain ⟨hd, h0, h1, h2, h3, h4, h5, h6, h7, h8, h9, h10, h11, h12, h13, h14, h15, h16, h17, h18, h19, h20, h21, h22, h23, h24, h25⟩ := hw
  refine r_tsw hC dX2_spelling_1 o1.1 o1.2 153 (by decide) (fun c2 => ?_) (fun n hn hn2 => ?_)
  · have hw := hd c2
    refine r_ldcS hC 11 (by decide) dX2_spelling_153 ?_
    exact hQ _ _ _ dX2_spelling_155 hw
  · have hlt : n < 26 := by omega
    match n, hlt with
    | 0, _ =>
      refine ⟨_, 120, rfl, by decide, ?_⟩
      have hw := h0 (by omega)
      refine r_ldcS hC 0 (by decide) dX2_spelling_120 ?_
      exact hQ _ _ _ dX2_spelling_122 hw
    | 1, _ =>
      refine ⟨_, 123, rfl, by decide, ?_⟩
      have hw := h1 (by omega)
      refine r_ldcS hC 1 (by decide) dX2_spelling_123 ?_
      exact hQ _ _ _ dX2_spelling_125 hw
    | 2, _ =>
      refine ⟨_, 126, rfl, by decide, ?_⟩
      have hw := h2 (by omega)
      refine r_ldcS hC 2 (by decide) dX2_spelling_126 ?_
      exact hQ _ _ _ dX2_spelling_128 hw
    | 3, _ =>
      refine ⟨_, 129, rfl, by decide, ?_⟩
      have hw := h3 (by omega)
      refine r_ldcS hC 3 (by decide) dX2_spelling_129 ?_
      exact hQ _ _ _ dX2_spelling_131 hw
    | 4, _ =>
      refine ⟨_, 132, rfl, by decide, ?_⟩
      have hw := h4 (by omega)
      refine r_ldcS hC 4 (by decide) dX2_spelling_132 ?_
      exact hQ _ _ _ dX2_spelling_134 hw
    | 5, _ =>
      refine ⟨_, 153, rfl, by decide, ?_⟩
      have hw := h5 (by omega)
      refine r_ldcS hC 11 (by decide) dX2_spelling_153 ?_
      exact hQ _ _ _ dX2_spelling_155 hw
    | 6, _ =>
      refine ⟨_, 153, rfl, by decide, ?_⟩
      have hw := h6 (by omega)
      refine r_ldcS hC 11 (by decide) dX2_spelling_153 ?_
      exact hQ _ _ _ dX2_spelling_155 hw
    | 7, _ =>
      refine ⟨_, 153, rfl, by decide, ?_⟩
      have hw := h7 (by omega)
      refine r_ldcS hC 11 (by decide) dX2_spelling_153 ?_
      exact hQ _ _ _ dX2_spelling_155 hw
    | 8, _ =>
      refine ⟨_, 153, rfl, by decide, ?_⟩
      have hw := h8 (by omega)
      refine r_ldcS hC 11 (by decide) dX2_spelling_153 ?_
      exact hQ _ _ _ dX2_spelling_155 hw
    | 9, _ =>
      refine ⟨_, 153, rfl, by decide, ?_⟩
      have hw := h9 (by omega)
      refine r_ldcS hC 11 (by decide) dX2_spelling_153 ?_
      exact hQ _ _ _ dX2_spelling_155 hw
    | 10, _ =>
      refine ⟨_, 153, rfl, by decide, ?_⟩
      have hw := h10 (by omega)
      refine r_ldcS hC 11 (by decide) dX2_spelling_153 ?_
      exact hQ _ _ _ dX2_spelling_155 hw
    | 11, _ =>
      refine ⟨_, 153, rfl, by decide, ?_⟩
      have hw := h11 (by omega)
      refine r_ldcS hC 11 (by decide) dX2_spelling_153 ?_
      exact hQ _ _ _ dX2_spelling_155 hw
    | 12, _ =>
      refine ⟨_, 153, rfl, by decide, ?_⟩
      have hw := h12 (by omega)
      refine r_ldcS hC 11 (by decide) dX2_spelling_153 ?_
      exact hQ _ _ _ dX2_spelling_155 hw
    | 13, _ =>
      refine ⟨_, 153, rfl, by decide, ?_⟩
      have hw := h13 (by omega)
      refine r_ldcS hC 11 (by decide) dX2_spelling_153 ?_
      exact hQ _ _ _ dX2_spelling_155 hw
    | 14, _ =>
      refine ⟨_, 153, rfl, by decide, ?_⟩
      have hw := h14 (by omega)
      refine r_ldcS hC 11 (by decide) dX2_spelling_153 ?_
      exact hQ _ _ _ dX2_spelling_155 hw
    | 15, _ =>
      refine ⟨_, 153, rfl, by decide, ?_⟩
      have hw := h15 (by omega)
      refine r_ldcS hC 11 (by decide) dX2_spelling_153 ?_
      exact hQ _ _ _ dX2_spelling_155 hw
    | 16, _ =>
      refine ⟨_, 153, rfl, by decide, ?_⟩
      have hw := h16 (by omega)
      refine r_ldcS hC 11 (by decide) dX2_spelling_153 ?_
      exact hQ _ _ _ dX2_spelling_155 hw
    | 17, _ =>
      refine ⟨_, 153, rfl, by decide, ?_⟩
      have hw := h17 (by omega)
      refine r_ldcS hC 11 (by decide) dX2_spelling_153 ?_
      exact hQ _ _ _ dX2_spelling_155 hw
    | 18, _ =>
      refine ⟨_, 153, rfl, by decide, ?_⟩
      have hw := h18 (by omega)
      refine r_ldcS hC 11 (by decide) dX2_spelling_153 ?_
      exact hQ _ _ _ dX2_spelling_155 hw
    | 19, _ =>
      refine ⟨_, 153, rfl, by decide, ?_⟩
      have hw := h19 (by omega)
      refine r_ldcS hC 11 (by decide) dX2_spelling_153 ?_
      exact hQ _ _ _ dX2_spelling_155 hw
    | 20, _ =>
      refine ⟨_, 135, rfl, by decide, ?_⟩
      have hw := h20 (by omega)
      refine r_ldcS hC 5 (by decide) dX2_spelling_135 ?_
      exact hQ _ _ _ dX2_spelling_137 hw
    | 21, _ =>
      refine ⟨_, 138, rfl, by decide, ?_⟩
      have hw := h21 (by omega)
      refine r_ldcS hC 6 (by decide) dX2_spelling_138 ?_
      exact hQ _ _ _ dX2_spelling_140 hw
    | 22, _ =>
      refine ⟨_, 141, rfl, by decide, ?_⟩
      have hw := h22 (by omega)
      refine r_ldcS hC 7 (by decide) dX2_spelling_141 ?_
      exact hQ _ _ _ dX2_spelling_143 hw
    | 23, _ =>
      refine ⟨_, 144, rfl, by decide, ?_⟩
      have hw := h23 (by omega)
      refine r_ldcS hC 8 (by decide) dX2_spelling_144 ?_
      exact hQ _ _ _ dX2_spelling_146 hw
    | 24, _ =>
      refine ⟨_, 147, rfl, by decide, ?_⟩
      have hw := h24 (by omega)
      refine r_ldcS hC 9 (by decide) dX2_spelling_147 ?_
      exact hQ _ _ _ dX2_spelling_149 hw
    | 25, _ =>
      refine ⟨_, 150, rfl, by decide, ?_⟩
      have hw := h25 (by omega)
      refine r_ldcS hC 10 (by decide) dX2_spelling_150 ?_
      exact hQ _ _ _ dX2_spelling_152 hw
    | n + 26, h => exact absurd h (by omega)
set_option maxRecDepth 100000 in
set_option maxHeartbeats 4000000 in
theorem d_Reader_spelling {l : Launch} {D : va_G} {aC : Nat → ClassId} {ad : Nat → Nat} {M : Mem} {x0 : Int} {Q : Nat → Prop} (hw : w_Reader_spelling M x0 Q) : Does l D aC ad yX2_spelling cX2_spelling 1 (some (.object "java/lang/String")) 0 0 [vI x0] M (qR M Q) :=
  Does.of (by decide) (Nat.le_of_ble_eq_true rfl) (fun p e R s m args below meth c hC => r_subk (s_Reader_spelling hC (fun pc L z d h => r_aret hC d ⟨rfl, ⟨z, rfl, h⟩⟩) hw) ⟨rfl, trivial⟩)
/-- SoupSand$Reader.isSpelt -/
def w_Reader_isSpelt_B0 (Q : Int → Prop) (x1 : Int) (r3 : Nat) (M : Mem) (X22 : Int → Prop) (x4 : Int) : Prop :=
  w_slength r3 (fun a1 => (-2147483648 ≤ x4 ∧ x4 ≤ 2147483647) ∧ ((-2147483648 ≤ a1 ∧ a1 ≤ 2147483647) ∧ ((a1 ≤ x4 → Q 1) ∧ (¬ (a1 ≤ x4) → (0 ≤ x1 + x4 ∧ x1 + x4 < 200) ∧ (∀ a7 : Int, a7 = M 52 (x1 + x4) → 0 ≤ a7 → a7 ≤ 255 → w_scharAt r3 x4 (fun a9 => (-2147483648 ≤ a9 ∧ a9 ≤ 2147483647) ∧ ((a7 = a9 → X22 (x4 + 1)) ∧ (¬ (a7 = a9) → Q 0))))))))
set_option maxRecDepth 100000 in
set_option maxHeartbeats 4000000 in
theorem s_Reader_isSpelt_B0 {Q : Int → Prop} {x1 : Int} {r3 : Nat} {M : Mem} {X22 : Int → Prop} {x4 : Int} (hC : rC p R s m args meth c cells slots D aC ad 5 cX2_isSpelt RX2 5 131 (some .boolean)) (hQ : ∀ (pc : Nat) (L : List (Nat × RV)) (z : Int), decode cX2_isSpelt pc = .ok (.ireturn, 1) → 0 ≤ z → z ≤ 1 → Q z → rG p l e R s m args below meth c cells slots Qs D aC ad 5 pc L [vI z] M) (hX22 : ∀ (x4 : Int), X22 x4 → rG p l e R s m args below meth c cells slots Qs D aC ad 5 22 [(0, vR 11), (1, vI x1), (3, vR r3), (4, vI x4)] [] M) (hw : w_Reader_isSpelt_B0 Q x1 r3 M X22 x4) : rG p l e R s m args below meth c cells slots Qs D aC ad 5 22 [(0, vR 11), (1, vI x1), (3, vR r3), (4, vI x4)] [] M := by
  unfold w_Reader_isSpelt_B0 at hw
  refine r_iload hC dX2_isSpelt_22 rfl ?_
  refine r_aload_n hC dX2_isSpelt_24 rfl rfl ?_
  refine r_slength hC km2_96 (by decide) (Nat.le_of_ble_eq_true rfl) dX2_isSpelt_25 hw (fun a1 hw => ?_)
  obtain ⟨o2, hw⟩ := hw
  obtain ⟨o3, hw⟩ := hw
  obtain ⟨hwt, hwf⟩ := hw
  refine r_icmp_ge hC 57 dX2_isSpelt_28 (by decide) o2.1 o2.2 o3.1 o3.2 (fun c4 => ?_) (fun c4 => ?_)
  · have hw := hwt c4
    refine r_iconst hC dX2_isSpelt_57 ?_
    exact hQ _ _ _ dX2_isSpelt_58 (by decide) (by decide) hw
  · have hw := hwf c4
    refine r_aload_n hC dX2_isSpelt_31 rfl rfl ?_
    refine r_getR hC 4 rfl (by decide) kf2_21 rfl rfl dX2_isSpelt_32 ?_
    refine r_iload_n hC dX2_isSpelt_35 rfl rfl ?_
    refine r_iload hC dX2_isSpelt_36 rfl ?_
    refine r_iadd hC dX2_isSpelt_38 ?_
    obtain ⟨o6, hw⟩ := hw
    refine r_iald hC rfl o6.1 o6.2 (by decide) (by decide) dX2_isSpelt_39 (fun b8 b8' => ?_)
    replace hw := hw _ rfl b8 b8'
    refine r_aload_n hC dX2_isSpelt_40 rfl rfl ?_
    refine r_iload hC dX2_isSpelt_41 rfl ?_
    refine r_scharAt hC km2_98 (by decide) (Nat.le_of_ble_eq_true rfl) dX2_isSpelt_43 hw (fun a9 hw => ?_)
    obtain ⟨o11, hw⟩ := hw
    obtain ⟨hwt, hwf⟩ := hw
    refine r_icmp_eq hC 51 dX2_isSpelt_46 (by decide) (by omega) (by omega) o11.1 o11.2 (fun c12 => ?_) (fun c12 => ?_)
    · have hw := hwt c12
      refine r_iinc hC dX2_isSpelt_51 rfl (by decide) ?_
      refine r_goto hC 22 dX2_isSpelt_54 (by decide) ?_
      exact r_subk (hX22 _ hw) ⟨rfl, rfl, rfl, rfl, trivial⟩
    · have hw := hwf c12
      refine r_iconst hC dX2_isSpelt_49 ?_
      exact hQ _ _ _ dX2_isSpelt_50 (by decide) (by decide) hw
def w_Reader_isSpelt_L0 (Q : Int → Prop) (x1 : Int) (r3 : Nat) (M : Mem) (x4 : Int) : Prop :=
  ∀ X : Int → Prop, (∀ (x4 : Int), w_Reader_isSpelt_B0 Q x1 r3 M X x4 → X x4) → X x4
set_option maxRecDepth 100000 in
set_option maxHeartbeats 4000000 in
theorem s_Reader_isSpelt_L0 {Q : Int → Prop} {x1 : Int} {r3 : Nat} {M : Mem} {x4 : Int} (hC : rC p R s m args meth c cells slots D aC ad 5 cX2_isSpelt RX2 5 131 (some .boolean)) (hQ : ∀ (pc : Nat) (L : List (Nat × RV)) (z : Int), decode cX2_isSpelt pc = .ok (.ireturn, 1) → 0 ≤ z → z ≤ 1 → Q z → rG p l e R s m args below meth c cells slots Qs D aC ad 5 pc L [vI z] M) (hw : w_Reader_isSpelt_L0 Q x1 r3 M x4) : rG p l e R s m args below meth c cells slots Qs D aC ad 5 22 [(0, vR 11), (1, vI x1), (3, vR r3), (4, vI x4)] [] M := by
  unfold w_Reader_isSpelt_L0 at hw
  exact hw (fun x4 => rG p l e R s m args below meth c cells slots Qs D aC ad 5 22 [(0, vR 11), (1, vI x1), (3, vR r3), (4, vI x4)] [] M) (fun x4 hb => s_Reader_isSpelt_B0 hC hQ (fun _ h => h) hb)
def w_Reader_isSpelt (M : Mem) (x1 : Int) (x2 : Int) (r3 : Nat) (Q : Int → Prop) : Prop :=
  w_sempty r3 (fun a1 => (-2147483648 ≤ a1 ∧ a1 ≤ 2147483647) ∧ ((¬ (a1 = 0) → Q 0) ∧ (a1 = 0 → w_slength r3 (fun a6 => (-2147483648 ≤ a6 ∧ a6 ≤ 2147483647) ∧ ((-2147483648 ≤ x2 - x1 ∧ x2 - x1 ≤ 2147483647) ∧ ((a6 = x2 - x1 → w_Reader_isSpelt_L0 Q x1 r3 M 0) ∧ (¬ (a6 = x2 - x1) → Q 0)))))))
set_option maxRecDepth 100000 in
set_option maxHeartbeats 4000000 in
theorem s_Reader_isSpelt {M : Mem} {x1 : Int} {x2 : Int} {r3 : Nat} {Q : Int → Prop} (hC : rC p R s m args meth c cells slots D aC ad 5 cX2_isSpelt RX2 5 131 (some .boolean)) (hQ : ∀ (pc : Nat) (L : List (Nat × RV)) (z : Int), decode cX2_isSpelt pc = .ok (.ireturn, 1) → 0 ≤ z → z ≤ 1 → Q z → rG p l e R s m args below meth c cells slots Qs D aC ad 5 pc L [vI z] M) (hw : w_Reader_isSpelt M x1 x2 r3 Q) : rG p l e R s m args below meth c cells slots Qs D aC ad 5 0 [(0, vR 11), (1, vI x1), (2, vI x2), (3, vR r3)] [] M := by
  unfold w_Reader_isSpelt at hw
  refine r_aload_n hC dX2_isSpelt_0 rfl rfl ?_
  refine r_sempty hC km2_90 (by decide) (Nat.le_of_ble_eq_true rfl) dX2_isSpelt_1 hw (fun a1 hw => ?_)
  obtain ⟨o2, hw⟩ := hw
  obtain ⟨hwt, hwf⟩ := hw
  refine r_if_ne hC 17 dX2_isSpelt_4 (by decide) o2.1 o2.2 (fun c4 => ?_) (fun c4 => ?_)
  · have hw := hwt c4
    refine r_iconst hC dX2_isSpelt_17 ?_
    exact hQ _ _ _ dX2_isSpelt_18 (by decide) (by decide) hw
  · have hw := hwf c4
    refine r_aload_n hC dX2_isSpelt_7 rfl rfl ?_
    refine r_slength hC km2_96 (by decide) (Nat.le_of_ble_eq_true rfl) dX2_isSpelt_8 hw (fun a6 hw => ?_)
    refine r_iload_n hC dX2_isSpelt_11 rfl rfl ?_
    refine r_iload_n hC dX2_isSpelt_12 rfl rfl ?_
    refine r_isub hC dX2_isSpelt_13 ?_
    obtain ⟨o7, hw⟩ := hw
    obtain ⟨o8, hw⟩ := hw
    obtain ⟨hwt, hwf⟩ := hw
    refine r_icmp_eq hC 19 dX2_isSpelt_14 (by decide) o7.1 o7.2 o8.1 o8.2 (fun c9 => ?_) (fun c9 => ?_)
    · have hw := hwt c9
      refine r_iconst hC dX2_isSpelt_19 ?_
      refine r_istore hC dX2_isSpelt_20 (by decide) ?_
      exact r_subk (s_Reader_isSpelt_L0 hC hQ hw) ⟨rfl, rfl, rfl, rfl, trivial⟩
    · have hw := hwf c9
      refine r_iconst hC dX2_isSpelt_17 ?_
      exact hQ _ _ _ dX2_isSpelt_18 (by decide) (by decide) hw
set_option maxRecDepth 100000 in
set_option maxHeartbeats 4000000 in
theorem d_Reader_isSpelt {l : Launch} {D : va_G} {aC : Nat → ClassId} {ad : Nat → Nat} {M : Mem} {x1 : Int} {x2 : Int} {r3 : Nat} {Q : Int → Prop} (hw : w_Reader_isSpelt M x1 x2 r3 Q) : Does l D aC ad yX2_isSpelt cX2_isSpelt 5 (some .boolean) 5 131 [vR 11, vI x1, vI x2, vR r3] M (qI M Q) :=
  Does.of (by decide) (Nat.le_of_ble_eq_true rfl) (fun p e R s m args below meth c hC => r_subk (s_Reader_isSpelt hC (fun pc L z d z1 z2 h => r_zret hC d z1 z2 ⟨rfl, ⟨z, rfl, h⟩⟩) hw) ⟨rfl, rfl, rfl, rfl, trivial⟩)
theorem dd_2_isSpelt : yX2_isSpelt.cls ≠ "java/lang/invoke/MethodHandle" ∧ yX2_isSpelt.cls ≠ "java/lang/invoke/VarHandle" ∧ (parseMethodDescriptor yX2_isSpelt.desc).map (fun d => d.parameters.length) = some 3 := by decide +kernel
theorem dd_2_spelling : yX2_spelling.cls ≠ "java/lang/invoke/MethodHandle" ∧ yX2_spelling.cls ≠ "java/lang/invoke/VarHandle" ∧ (parseMethodDescriptor yX2_spelling.desc).map (fun d => d.parameters.length) = some 1 := by decide +kernel
/-- SoupSand$Reader.takeWord -/
def w_Reader_takeWord_B1 (Q : Int → Mem → Prop) (x1 : Int) (M : Mem) (X59 : Int → Prop) (x2 : Int) : Prop :=
  (-2147483648 ≤ x2 ∧ x2 ≤ 2147483647) ∧ ((25 < x2 → Q (-1) M) ∧ (¬ (25 < x2) → ∀ a4 : Int, a4 = M 11 5 → 0 ≤ a4 → a4 ≤ 200 → w_Reader_spelling M x2 (fun a6 => w_Reader_isSpelt M x1 a4 a6 (fun a7 => (-2147483648 ≤ a7 ∧ a7 ≤ 2147483647) ∧ ((a7 = 0 → X59 (x2 + 1)) ∧ (¬ (a7 = 0) → Q x2 M))))))
set_option maxRecDepth 100000 in
set_option maxHeartbeats 4000000 in
theorem s_Reader_takeWord_B1 {Q : Int → Mem → Prop} {x1 : Int} {M : Mem} {X59 : Int → Prop} {x2 : Int} (hC : rC p R s m args meth c cells slots D aC ad 3 cX2_takeWord RX2 6 155 (some .int)) (hQ : ∀ (pc : Nat) (L : List (Nat × RV)) (z : Int) (M : Mem), decode cX2_takeWord pc = .ok (.ireturn, 1) → Q z M → rG p l e R s m args below meth c cells slots Qs D aC ad 3 pc L [vI z] M) (hX59 : ∀ (x2 : Int), X59 x2 → rG p l e R s m args below meth c cells slots Qs D aC ad 3 59 [(0, vR 11), (1, vI x1), (2, vI x2)] [] M) (hw : w_Reader_takeWord_B1 Q x1 M X59 x2) : rG p l e R s m args below meth c cells slots Qs D aC ad 3 59 [(0, vR 11), (1, vI x1), (2, vI x2)] [] M := by
  unfold w_Reader_takeWord_B1 at hw
  refine r_iload_n hC dX2_takeWord_59 rfl rfl ?_
  refine r_bipush hC dX2_takeWord_60 (by decide) ?_
  obtain ⟨o1, hw⟩ := hw
  obtain ⟨hwt, hwf⟩ := hw
  refine r_icmp_gt hC 89 dX2_takeWord_62 (by decide) o1.1 o1.2 (by decide) (by decide) (fun c3 => ?_) (fun c3 => ?_)
  · have hw := hwt c3
    refine r_iconst hC dX2_takeWord_89 ?_
    exact hQ _ _ _ _ dX2_takeWord_90 hw
  · have hw := hwf c3
    refine r_aload_n hC dX2_takeWord_65 rfl rfl ?_
    refine r_iload_n hC dX2_takeWord_66 rfl rfl ?_
    refine r_aload_n hC dX2_takeWord_67 rfl rfl ?_
    refine r_getI hC 5 rfl (by decide) kf2_29 rfl rfl dX2_takeWord_68 (fun b5 b5' => ?_)
    replace hw := hw _ rfl b5 b5'
    refine r_iload_n hC dX2_takeWord_71 rfl rfl ?_
    refine r_callS hC (d_Reader_spelling hw) kC2_spelling km2_82 kT2_spelling kN2 dd_2_spelling ⟨Nat.le_of_ble_eq_true rfl, Nat.le_of_ble_eq_true rfl⟩ rfl (Nat.le_of_ble_eq_true rfl) dX2_takeWord_72 (fun r M' hp => ?_)
    obtain ⟨rfl, a6, rfl, hw⟩ := hp
    try dsimp only at hw
    refine r_callV hC (d_Reader_isSpelt hw) rfl kC2_isSpelt km2_86 kI2_isSpelt kS2_isSpelt kN2 dd_2_isSpelt ⟨Nat.le_of_ble_eq_true rfl, Nat.le_of_ble_eq_true rfl⟩ rfl (Nat.le_of_ble_eq_true rfl) dX2_takeWord_75 (fun r M' hp => ?_)
    obtain ⟨rfl, a7, rfl, hw⟩ := hp
    try dsimp only at hw
    obtain ⟨o8, hw⟩ := hw
    obtain ⟨hwt, hwf⟩ := hw
    refine r_if_eq hC 83 dX2_takeWord_78 (by decide) o8.1 o8.2 (fun c10 => ?_) (fun c10 => ?_)
    · have hw := hwt c10
      refine r_iinc hC dX2_takeWord_83 rfl (by decide) ?_
      refine r_goto hC 59 dX2_takeWord_86 (by decide) ?_
      exact r_subk (hX59 _ hw) ⟨rfl, rfl, rfl, trivial⟩
    · have hw := hwf c10
      refine r_iload_n hC dX2_takeWord_81 rfl rfl ?_
      exact hQ _ _ _ _ dX2_takeWord_82 hw
def w_Reader_takeWord_L1 (Q : Int → Mem → Prop) (x1 : Int) (M : Mem) (x2 : Int) : Prop :=
  ∀ X : Int → Prop, (∀ (x2 : Int), w_Reader_takeWord_B1 Q x1 M X x2 → X x2) → X x2
set_option maxRecDepth 100000 in
set_option maxHeartbeats 4000000 in
theorem s_Reader_takeWord_L1 {Q : Int → Mem → Prop} {x1 : Int} {M : Mem} {x2 : Int} (hC : rC p R s m args meth c cells slots D aC ad 3 cX2_takeWord RX2 6 155 (some .int)) (hQ : ∀ (pc : Nat) (L : List (Nat × RV)) (z : Int) (M : Mem), decode cX2_takeWord pc = .ok (.ireturn, 1) → Q z M → rG p l e R s m args below meth c cells slots Qs D aC ad 3 pc L [vI z] M) (hw : w_Reader_takeWord_L1 Q x1 M x2) : rG p l e R s m args below meth c cells slots Qs D aC ad 3 59 [(0, vR 11), (1, vI x1), (2, vI x2)] [] M := by
  unfold w_Reader_takeWord_L1 at hw
  exact hw (fun x2 => rG p l e R s m args below meth c cells slots Qs D aC ad 3 59 [(0, vR 11), (1, vI x1), (2, vI x2)] [] M) (fun x2 hb => s_Reader_takeWord_B1 hC hQ (fun _ h => h) hb)
def w_Reader_takeWord_B0 (Q : Int → Mem → Prop) (x1 : Int) (X5 : Mem → Prop) (M : Mem) : Prop :=
  ∀ a1 : Int, a1 = M 11 5 → 0 ≤ a1 → a1 ≤ 200 → ∀ a3 : Int, a3 = M 11 1 → 0 ≤ a3 → a3 ≤ 200 → (a3 ≤ a1 → w_Reader_takeWord_L1 Q x1 M 0) ∧ (¬ (a3 ≤ a1) → ∀ a8 : Int, a8 = M 11 5 → 0 ≤ a8 → a8 ≤ 200 → (0 ≤ a8 ∧ a8 < 200) ∧ (∀ a11 : Int, a11 = M 52 a8 → 0 ≤ a11 → a11 ≤ 255 → (a11 < 97 → w_Reader_takeWord_L1 Q x1 M 0) ∧ (¬ (a11 < 97) → ∀ a16 : Int, a16 = M 11 5 → 0 ≤ a16 → a16 ≤ 200 → (0 ≤ a16 ∧ a16 < 200) ∧ (∀ a19 : Int, a19 = M 52 a16 → 0 ≤ a19 → a19 ≤ 255 → (122 < a19 → w_Reader_takeWord_L1 Q x1 M 0) ∧ (¬ (122 < a19) → ∀ a24 : Int, a24 = M 11 5 → 0 ≤ a24 → a24 ≤ 200 → (0 ≤ a24 + 1 ∧ a24 + 1 ≤ 200) ∧ (∀ M27 : Mem, M27 = mset M 11 5 (a24 + 1) → X5 M27))))))
set_option maxRecDepth 100000 in
set_option maxHeartbeats 4000000 in
theorem s_Reader_takeWord_B0 {Q : Int → Mem → Prop} {x1 : Int} {X5 : Mem → Prop} {M : Mem} (hC : rC p R s m args meth c cells slots D aC ad 3 cX2_takeWord RX2 6 155 (some .int)) (hQ : ∀ (pc : Nat) (L : List (Nat × RV)) (z : Int) (M : Mem), decode cX2_takeWord pc = .ok (.ireturn, 1) → Q z M → rG p l e R s m args below meth c cells slots Qs D aC ad 3 pc L [vI z] M) (hX5 : ∀ (M : Mem), X5 M → rG p l e R s m args below meth c cells slots Qs D aC ad 3 5 [(0, vR 11), (1, vI x1)] [] M) (hw : w_Reader_takeWord_B0 Q x1 X5 M) : rG p l e R s m args below meth c cells slots Qs D aC ad 3 5 [(0, vR 11), (1, vI x1)] [] M := by
  unfold w_Reader_takeWord_B0 at hw
  refine r_aload_n hC dX2_takeWord_5 rfl rfl ?_
  refine r_getI hC 5 rfl (by decide) kf2_29 rfl rfl dX2_takeWord_6 (fun b2 b2' => ?_)
  replace hw := hw _ rfl b2 b2'
  refine r_aload_n hC dX2_takeWord_9 rfl rfl ?_
  refine r_getI hC 1 rfl (by decide) kf2_24 rfl rfl dX2_takeWord_10 (fun b4 b4' => ?_)
  replace hw := hw _ rfl b4 b4'
  obtain ⟨hwt, hwf⟩ := hw
  refine r_icmp_ge hC 57 dX2_takeWord_13 (by decide) (by omega) (by omega) (by omega) (by omega) (fun c7 => ?_) (fun c7 => ?_)
  · have hw := hwt c7
    refine r_iconst hC dX2_takeWord_57 ?_
    refine r_istore_n hC dX2_takeWord_58 rfl (by decide) ?_
    exact r_subk (s_Reader_takeWord_L1 hC hQ hw) ⟨rfl, rfl, rfl, trivial⟩
  · have hw := hwf c7
    refine r_aload_n hC dX2_takeWord_16 rfl rfl ?_
    refine r_getR hC 4 rfl (by decide) kf2_21 rfl rfl dX2_takeWord_17 ?_
    refine r_aload_n hC dX2_takeWord_20 rfl rfl ?_
    refine r_getI hC 5 rfl (by decide) kf2_29 rfl rfl dX2_takeWord_21 (fun b9 b9' => ?_)
    replace hw := hw _ rfl b9 b9'
    obtain ⟨o10, hw⟩ := hw
    refine r_iald hC rfl o10.1 o10.2 (by decide) (by decide) dX2_takeWord_24 (fun b12 b12' => ?_)
    replace hw := hw _ rfl b12 b12'
    refine r_bipush hC dX2_takeWord_25 (by decide) ?_
    obtain ⟨hwt, hwf⟩ := hw
    refine r_icmp_lt hC 57 dX2_takeWord_27 (by decide) (by omega) (by omega) (by decide) (by decide) (fun c15 => ?_) (fun c15 => ?_)
    · have hw := hwt c15
      refine r_iconst hC dX2_takeWord_57 ?_
      refine r_istore_n hC dX2_takeWord_58 rfl (by decide) ?_
      exact r_subk (s_Reader_takeWord_L1 hC hQ hw) ⟨rfl, rfl, rfl, trivial⟩
    · have hw := hwf c15
      refine r_aload_n hC dX2_takeWord_30 rfl rfl ?_
      refine r_getR hC 4 rfl (by decide) kf2_21 rfl rfl dX2_takeWord_31 ?_
      refine r_aload_n hC dX2_takeWord_34 rfl rfl ?_
      refine r_getI hC 5 rfl (by decide) kf2_29 rfl rfl dX2_takeWord_35 (fun b17 b17' => ?_)
      replace hw := hw _ rfl b17 b17'
      obtain ⟨o18, hw⟩ := hw
      refine r_iald hC rfl o18.1 o18.2 (by decide) (by decide) dX2_takeWord_38 (fun b20 b20' => ?_)
      replace hw := hw _ rfl b20 b20'
      refine r_bipush hC dX2_takeWord_39 (by decide) ?_
      obtain ⟨hwt, hwf⟩ := hw
      refine r_icmp_gt hC 57 dX2_takeWord_41 (by decide) (by omega) (by omega) (by decide) (by decide) (fun c23 => ?_) (fun c23 => ?_)
      · have hw := hwt c23
        refine r_iconst hC dX2_takeWord_57 ?_
        refine r_istore_n hC dX2_takeWord_58 rfl (by decide) ?_
        exact r_subk (s_Reader_takeWord_L1 hC hQ hw) ⟨rfl, rfl, rfl, trivial⟩
      · have hw := hwf c23
        refine r_aload_n hC dX2_takeWord_44 rfl rfl ?_
        refine r_dup hC dX2_takeWord_45 rfl ?_
        refine r_getI hC 5 rfl (by decide) kf2_29 rfl rfl dX2_takeWord_46 (fun b25 b25' => ?_)
        replace hw := hw _ rfl b25 b25'
        refine r_iconst hC dX2_takeWord_49 ?_
        refine r_iadd hC dX2_takeWord_50 ?_
        obtain ⟨o26, hw⟩ := hw
        refine r_putI hC 5 rfl (by decide) kf2_29 rfl rfl o26.1 o26.2 dX2_takeWord_51 ?_
        replace hw := hw _ rfl
        refine r_goto hC 5 dX2_takeWord_54 (by decide) ?_
        exact r_subk (hX5 _ hw) ⟨rfl, rfl, trivial⟩
def w_Reader_takeWord_L0 (Q : Int → Mem → Prop) (x1 : Int) (M : Mem) : Prop :=
  ∀ X : Mem → Prop, (∀ (M : Mem), w_Reader_takeWord_B0 Q x1 X M → X M) → X M
set_option maxRecDepth 100000 in
set_option maxHeartbeats 4000000 in
theorem s_Reader_takeWord_L0 {Q : Int → Mem → Prop} {x1 : Int} {M : Mem} (hC : rC p R s m args meth c cells slots D aC ad 3 cX2_takeWord RX2 6 155 (some .int)) (hQ : ∀ (pc : Nat) (L : List (Nat × RV)) (z : Int) (M : Mem), decode cX2_takeWord pc = .ok (.ireturn, 1) → Q z M → rG p l e R s m args below meth c cells slots Qs D aC ad 3 pc L [vI z] M) (hw : w_Reader_takeWord_L0 Q x1 M) : rG p l e R s m args below meth c cells slots Qs D aC ad 3 5 [(0, vR 11), (1, vI x1)] [] M := by
  unfold w_Reader_takeWord_L0 at hw
  exact hw (fun M => rG p l e R s m args below meth c cells slots Qs D aC ad 3 5 [(0, vR 11), (1, vI x1)] [] M) (fun M hb => s_Reader_takeWord_B0 hC hQ (fun _ h => h) hb)
def w_Reader_takeWord (M : Mem) (Q : Int → Mem → Prop) : Prop :=
  ∀ a1 : Int, a1 = M 11 5 → 0 ≤ a1 → a1 ≤ 200 → w_Reader_takeWord_L0 Q a1 M
set_option maxRecDepth 100000 in
set_option maxHeartbeats 4000000 in
theorem s_Reader_takeWord {M : Mem} {Q : Int → Mem → Prop} (hC : rC p R s m args meth c cells slots D aC ad 3 cX2_takeWord RX2 6 155 (some .int)) (hQ : ∀ (pc : Nat) (L : List (Nat × RV)) (z : Int) (M : Mem), decode cX2_takeWord pc = .ok (.ireturn, 1) → Q z M → rG p l e R s m args below meth c cells slots Qs D aC ad 3 pc L [vI z] M) (hw : w_Reader_takeWord M Q) : rG p l e R s m args below meth c cells slots Qs D aC ad 3 0 [(0, vR 11)] [] M := by
  unfold w_Reader_takeWord at hw
  refine r_aload_n hC dX2_takeWord_0 rfl rfl ?_
  refine r_getI hC 5 rfl (by decide) kf2_29 rfl rfl dX2_takeWord_1 (fun b2 b2' => ?_)
  replace hw := hw _ rfl b2 b2'
  refine r_istore_n hC dX2_takeWord_4 rfl (by decide) ?_
  exact r_subk (s_Reader_takeWord_L0 hC hQ hw) ⟨rfl, rfl, trivial⟩
set_option maxRecDepth 100000 in
set_option maxHeartbeats 4000000 in
theorem d_Reader_takeWord {l : Launch} {D : va_G} {aC : Nat → ClassId} {ad : Nat → Nat} {M : Mem} {Q : Int → Mem → Prop} (hw : w_Reader_takeWord M Q) : Does l D aC ad yX2_takeWord cX2_takeWord 3 (some .int) 6 155 [vR 11] M (pI Q) :=
  Does.of (by decide) (Nat.le_of_ble_eq_true rfl) (fun p e R s m args below meth c hC => r_subk (s_Reader_takeWord hC (fun pc L z M d h => r_iret hC d ⟨z, rfl, h⟩) hw) ⟨rfl, trivial⟩)
/-- SoupSand$Rules.lowest -/
def w_Rules_lowest (M : Mem) (x0 : Int) (Q : Int → Prop) : Prop :=
  w_Rules_entry M x0 (fun a1 => (0 ≤ a1 ∧ a1 < 10) ∧ (Q ((stT 1).getD (Int.toNat a1) 0)))
set_option maxRecDepth 100000 in
set_option maxHeartbeats 4000000 in
theorem s_Rules_lowest {M : Mem} {x0 : Int} {Q : Int → Prop} (hC : rC p R s m args meth c cells slots D aC ad 1 cX3_lowest RX3 1 20 (some .int)) (hQ : ∀ (pc : Nat) (L : List (Nat × RV)) (z : Int), decode cX3_lowest pc = .ok (.ireturn, 1) → Q z → rG p l e R s m args below meth c cells slots Qs D aC ad 1 pc L [vI z] M) (hw : w_Rules_lowest M x0 Q) : rG p l e R s m args below meth c cells slots Qs D aC ad 1 0 [(0, vI x0)] [] M := by
  unfold w_Rules_lowest at hw
  refine r_gets hC 1 (by decide) kZ_LOWEST dX3_lowest_0 ?_
  refine r_iload_n hC dX3_lowest_3 rfl rfl ?_
  refine r_callS hC (d_Rules_entry hw) kC3_entry km3_20 kT3_entry kN3 dd_3_entry ⟨Nat.le_of_ble_eq_true rfl, Nat.le_of_ble_eq_true rfl⟩ rfl (Nat.le_of_ble_eq_true rfl) dX3_lowest_4 (fun r M' hp => ?_)
  obtain ⟨rfl, a1, rfl, hw⟩ := hp
  try dsimp only at hw
  obtain ⟨o2, hw⟩ := hw
  refine r_stald hC 1 (by decide) o2.1 o2.2 dX3_lowest_7 ?_
  exact hQ _ _ _ dX3_lowest_8 hw
set_option maxRecDepth 100000 in
set_option maxHeartbeats 4000000 in
theorem d_Rules_lowest {l : Launch} {D : va_G} {aC : Nat → ClassId} {ad : Nat → Nat} {M : Mem} {x0 : Int} {Q : Int → Prop} (hw : w_Rules_lowest M x0 Q) : Does l D aC ad yX3_lowest cX3_lowest 1 (some .int) 1 20 [vI x0] M (qI M Q) :=
  Does.of (by decide) (Nat.le_of_ble_eq_true rfl) (fun p e R s m args below meth c hC => r_subk (s_Rules_lowest hC (fun pc L z d h => r_iret hC d ⟨rfl, ⟨z, rfl, h⟩⟩) hw) ⟨rfl, trivial⟩)
/-- SoupSand$Rules.highest -/
def w_Rules_highest (M : Mem) (x0 : Int) (Q : Int → Prop) : Prop :=
  w_Rules_entry M x0 (fun a1 => (0 ≤ a1 ∧ a1 < 10) ∧ (Q ((stT 2).getD (Int.toNat a1) 0)))
set_option maxRecDepth 100000 in
set_option maxHeartbeats 4000000 in
theorem s_Rules_highest {M : Mem} {x0 : Int} {Q : Int → Prop} (hC : rC p R s m args meth c cells slots D aC ad 1 cX3_highest RX3 1 20 (some .int)) (hQ : ∀ (pc : Nat) (L : List (Nat × RV)) (z : Int), decode cX3_highest pc = .ok (.ireturn, 1) → Q z → rG p l e R s m args below meth c cells slots Qs D aC ad 1 pc L [vI z] M) (hw : w_Rules_highest M x0 Q) : rG p l e R s m args below meth c cells slots Qs D aC ad 1 0 [(0, vI x0)] [] M := by
  unfold w_Rules_highest at hw
  refine r_gets hC 2 (by decide) kZ_HIGHEST dX3_highest_0 ?_
  refine r_iload_n hC dX3_highest_3 rfl rfl ?_
  refine r_callS hC (d_Rules_entry hw) kC3_entry km3_20 kT3_entry kN3 dd_3_entry ⟨Nat.le_of_ble_eq_true rfl, Nat.le_of_ble_eq_true rfl⟩ rfl (Nat.le_of_ble_eq_true rfl) dX3_highest_4 (fun r M' hp => ?_)
  obtain ⟨rfl, a1, rfl, hw⟩ := hp
  try dsimp only at hw
  obtain ⟨o2, hw⟩ := hw
  refine r_stald hC 2 (by decide) o2.1 o2.2 dX3_highest_7 ?_
  exact hQ _ _ _ dX3_highest_8 hw
set_option maxRecDepth 100000 in
set_option maxHeartbeats 4000000 in
theorem d_Rules_highest {l : Launch} {D : va_G} {aC : Nat → ClassId} {ad : Nat → Nat} {M : Mem} {x0 : Int} {Q : Int → Prop} (hw : w_Rules_highest M x0 Q) : Does l D aC ad yX3_highest cX3_highest 1 (some .int) 1 20 [vI x0] M (qI M Q) :=
  Does.of (by decide) (Nat.le_of_ble_eq_true rfl) (fun p e R s m args below meth c hC => r_subk (s_Rules_highest hC (fun pc L z d h => r_iret hC d ⟨rfl, ⟨z, rfl, h⟩⟩) hw) ⟨rfl, trivial⟩)
/-- SoupSand$Reader.fail -/
def w_Reader_fail (M : Mem) (x1 : Int) (x2 : Int) (Q : Mem → Prop) : Prop :=
  ∀ a1 : Int, a1 = M 11 2 → 0 ≤ a1 → a1 ≤ 4 → (a1 = 0 → (0 ≤ x1 ∧ x1 ≤ 4) ∧ (∀ M7 : Mem, M7 = mset M 11 2 x1 → (-1 ≤ x2 ∧ x2 ≤ 200) ∧ (∀ M9 : Mem, M9 = mset M7 11 3 x2 → Q M9))) ∧ (¬ (a1 = 0) → Q M)
set_option maxRecDepth 100000 in
set_option maxHeartbeats 4000000 in
theorem s_Reader_fail {M : Mem} {x1 : Int} {x2 : Int} {Q : Mem → Prop} (hC : rC p R s m args meth c cells slots D aC ad 3 cX2_fail RX2 0 0 none) (hQ : ∀ (pc : Nat) (L : List (Nat × RV)) (M : Mem), decode cX2_fail pc = .ok (.return_, 1) → Q M → rG p l e R s m args below meth c cells slots Qs D aC ad 3 pc L [] M) (hw : w_Reader_fail M x1 x2 Q) : rG p l e R s m args below meth c cells slots Qs D aC ad 3 0 [(0, vR 11), (1, vI x1), (2, vI x2)] [] M := by
  unfold w_Reader_fail at hw
  refine r_aload_n hC dX2_fail_0 rfl rfl ?_
  refine r_getI hC 2 rfl (by decide) kf2_35 rfl rfl dX2_fail_1 (fun b2 b2' => ?_)
  replace hw := hw _ rfl b2 b2'
  obtain ⟨hwt, hwf⟩ := hw
  refine r_if_eq hC 8 dX2_fail_4 (by decide) (by omega) (by omega) (fun c5 => ?_) (fun c5 => ?_)
  · have hw := hwt c5
    refine r_aload_n hC dX2_fail_8 rfl rfl ?_
    refine r_iload_n hC dX2_fail_9 rfl rfl ?_
    obtain ⟨o6, hw⟩ := hw
    refine r_putI hC 2 rfl (by decide) kf2_35 rfl rfl o6.1 o6.2 dX2_fail_10 ?_
    replace hw := hw _ rfl
    refine r_aload_n hC dX2_fail_13 rfl rfl ?_
    refine r_iload_n hC dX2_fail_14 rfl rfl ?_
    obtain ⟨o8, hw⟩ := hw
    refine r_putI hC 3 rfl (by decide) kf2_17 rfl rfl o8.1 o8.2 dX2_fail_15 ?_
    replace hw := hw _ rfl
    exact hQ _ _ _ dX2_fail_18 hw
  · have hw := hwf c5
    exact hQ _ _ _ dX2_fail_7 hw
set_option maxRecDepth 100000 in
set_option maxHeartbeats 4000000 in
theorem d_Reader_fail {l : Launch} {D : va_G} {aC : Nat → ClassId} {ad : Nat → Nat} {M : Mem} {x1 : Int} {x2 : Int} {Q : Mem → Prop} (hw : w_Reader_fail M x1 x2 Q) : Does l D aC ad yX2_fail cX2_fail 3 none 0 0 [vR 11, vI x1, vI x2] M (pV Q) :=
  Does.of (by decide) (Nat.le_of_ble_eq_true rfl) (fun p e R s m args below meth c hC => r_subk (s_Reader_fail hC (fun pc L M d h => r_vret hC d ⟨rfl, h⟩) hw) ⟨rfl, rfl, rfl, trivial⟩)
theorem dd_2_fail : yX2_fail.cls ≠ "java/lang/invoke/MethodHandle" ∧ yX2_fail.cls ≠ "java/lang/invoke/VarHandle" ∧ (parseMethodDescriptor yX2_fail.desc).map (fun d => d.parameters.length) = some 2 := by decide +kernel
theorem dd_2_skipBlanks : yX2_skipBlanks.cls ≠ "java/lang/invoke/MethodHandle" ∧ yX2_skipBlanks.cls ≠ "java/lang/invoke/VarHandle" ∧ (parseMethodDescriptor yX2_skipBlanks.desc).map (fun d => d.parameters.length) = some 0 := by decide +kernel
/-- SoupSand$Reader.takeNumber -/
def w_Reader_takeNumber_j3 (Q : Int → Mem → Prop) (x1 : Int) (x4 : Int) (M : Mem) : Prop :=
  ∀ a1 : Int, a1 = M 11 2 → 0 ≤ a1 → a1 ≤ 4 → (¬ (a1 = 0) → Q x1 M) ∧ (a1 = 0 → Q x4 M)
set_option maxRecDepth 100000 in
set_option maxHeartbeats 4000000 in
theorem s_Reader_takeNumber_j3 {Q : Int → Mem → Prop} {x1 : Int} {x4 : Int} {M : Mem} (hC : rC p R s m args meth c cells slots D aC ad 5 cX2_takeNumber RX2 1 22 (some .int)) (hQ : ∀ (pc : Nat) (L : List (Nat × RV)) (z : Int) (M : Mem), decode cX2_takeNumber pc = .ok (.ireturn, 1) → Q z M → rG p l e R s m args below meth c cells slots Qs D aC ad 5 pc L [vI z] M) (hw : w_Reader_takeNumber_j3 Q x1 x4 M) : rG p l e R s m args below meth c cells slots Qs D aC ad 5 137 [(0, vR 11), (1, vI x1), (4, vI x4)] [] M := by
  unfold w_Reader_takeNumber_j3 at hw
  refine r_aload_n hC dX2_takeNumber_137 rfl rfl ?_
  refine r_getI hC 2 rfl (by decide) kf2_35 rfl rfl dX2_takeNumber_138 (fun b2 b2' => ?_)
  replace hw := hw _ rfl b2 b2'
  obtain ⟨hwt, hwf⟩ := hw
  refine r_if_ne hC 149 dX2_takeNumber_141 (by decide) (by omega) (by omega) (fun c5 => ?_) (fun c5 => ?_)
  · have hw := hwt c5
    refine r_iload_n hC dX2_takeNumber_149 rfl rfl ?_
    exact hQ _ _ _ _ dX2_takeNumber_150 hw
  · have hw := hwf c5
    refine r_iload hC dX2_takeNumber_144 rfl ?_
    refine r_goto hC 150 dX2_takeNumber_146 (by decide) ?_
    exact hQ _ _ _ _ dX2_takeNumber_150 hw
def w_Reader_takeNumber_j2 (Q : Int → Mem → Prop) (x1 : Int) (x3 : Int) (x4 : Int) (M : Mem) : Prop :=
  w_Reader_fail M 2 x3 (fun M2 => w_Reader_takeNumber_j3 Q x1 x4 M2)
set_option maxRecDepth 100000 in
set_option maxHeartbeats 4000000 in
theorem s_Reader_takeNumber_j2 {Q : Int → Mem → Prop} {x1 : Int} {x3 : Int} {x4 : Int} {M : Mem} (hC : rC p R s m args meth c cells slots D aC ad 5 cX2_takeNumber RX2 1 22 (some .int)) (hQ : ∀ (pc : Nat) (L : List (Nat × RV)) (z : Int) (M : Mem), decode cX2_takeNumber pc = .ok (.ireturn, 1) → Q z M → rG p l e R s m args below meth c cells slots Qs D aC ad 5 pc L [vI z] M) (hw : w_Reader_takeNumber_j2 Q x1 x3 x4 M) : rG p l e R s m args below meth c cells slots Qs D aC ad 5 131 [(0, vR 11), (1, vI x1), (3, vI x3), (4, vI x4)] [] M := by
  unfold w_Reader_takeNumber_j2 at hw
  refine r_aload_n hC dX2_takeNumber_131 rfl rfl ?_
  refine r_iconst hC dX2_takeNumber_132 ?_
  refine r_iload_n hC dX2_takeNumber_133 rfl rfl ?_
  refine r_callV hC (d_Reader_fail hw) rfl kC2_fail km2_52 kI2_fail kS2_fail kN2 dd_2_fail ⟨Nat.le_of_ble_eq_true rfl, Nat.le_of_ble_eq_true rfl⟩ rfl (Nat.le_of_ble_eq_true rfl) dX2_takeNumber_134 (fun r M' hp => ?_)
  obtain ⟨rfl, hw⟩ := hp
  try dsimp only at hw
  exact r_subk (s_Reader_takeNumber_j3 hC hQ hw) ⟨rfl, rfl, rfl, trivial⟩
def w_Reader_takeNumber_j1 (Q : Int → Mem → Prop) (x1 : Int) (x2 : Int) (x3 : Int) (x4 : Int) (M : Mem) : Prop :=
  ∀ a1 : Int, a1 = M 11 5 → 0 ≤ a1 → a1 ≤ 200 → (-2147483648 ≤ x3 ∧ x3 ≤ 2147483647) ∧ ((¬ (a1 = x3) → ∀ a6 : Int, a6 = M 11 5 → 0 ≤ a6 → a6 ≤ 200 → (-2147483648 ≤ a6 - x3 ∧ a6 - x3 ≤ 2147483647) ∧ ((3 < a6 - x3 → w_Reader_takeNumber_j2 Q x1 x3 x4 M) ∧ (¬ (3 < a6 - x3) → w_S_beyond M x4 x1 x2 (fun a11 => (-2147483648 ≤ a11 ∧ a11 ≤ 2147483647) ∧ ((a11 = 0 → w_Reader_takeNumber_j3 Q x1 x4 M) ∧ (¬ (a11 = 0) → w_Reader_takeNumber_j2 Q x1 x3 x4 M)))))) ∧ (a1 = x3 → w_Reader_fail M 1 x3 (fun M16 => w_Reader_takeNumber_j3 Q x1 x4 M16)))
set_option maxRecDepth 100000 in
set_option maxHeartbeats 4000000 in
theorem s_Reader_takeNumber_j1 {Q : Int → Mem → Prop} {x1 : Int} {x2 : Int} {x3 : Int} {x4 : Int} {M : Mem} (hC : rC p R s m args meth c cells slots D aC ad 5 cX2_takeNumber RX2 1 22 (some .int)) (hQ : ∀ (pc : Nat) (L : List (Nat × RV)) (z : Int) (M : Mem), decode cX2_takeNumber pc = .ok (.ireturn, 1) → Q z M → rG p l e R s m args below meth c cells slots Qs D aC ad 5 pc L [vI z] M) (hw : w_Reader_takeNumber_j1 Q x1 x2 x3 x4 M) : rG p l e R s m args below meth c cells slots Qs D aC ad 5 94 [(0, vR 11), (1, vI x1), (2, vI x2), (3, vI x3), (4, vI x4)] [] M := by
  unfold w_Reader_takeNumber_j1 at hw
  refine r_aload_n hC dX2_takeNumber_94 rfl rfl ?_
  refine r_getI hC 5 rfl (by decide) kf2_29 rfl rfl dX2_takeNumber_95 (fun b2 b2' => ?_)
  replace hw := hw _ rfl b2 b2'
  refine r_iload_n hC dX2_takeNumber_98 rfl rfl ?_
  obtain ⟨o4, hw⟩ := hw
  obtain ⟨hwt, hwf⟩ := hw
  refine r_icmp_ne hC 111 dX2_takeNumber_99 (by decide) (by omega) (by omega) o4.1 o4.2 (fun c5 => ?_) (fun c5 => ?_)
  · have hw := hwt c5
    refine r_aload_n hC dX2_takeNumber_111 rfl rfl ?_
    refine r_getI hC 5 rfl (by decide) kf2_29 rfl rfl dX2_takeNumber_112 (fun b7 b7' => ?_)
    replace hw := hw _ rfl b7 b7'
    refine r_iload_n hC dX2_takeNumber_115 rfl rfl ?_
    refine r_isub hC dX2_takeNumber_116 ?_
    refine r_iconst hC dX2_takeNumber_117 ?_
    obtain ⟨o8, hw⟩ := hw
    obtain ⟨hwt, hwf⟩ := hw
    refine r_icmp_gt hC 131 dX2_takeNumber_118 (by decide) o8.1 o8.2 (by decide) (by decide) (fun c10 => ?_) (fun c10 => ?_)
    · have hw := hwt c10
      exact r_subk (s_Reader_takeNumber_j2 hC hQ hw) ⟨rfl, rfl, rfl, rfl, trivial⟩
    · have hw := hwf c10
      refine r_iload hC dX2_takeNumber_121 rfl ?_
      refine r_iload_n hC dX2_takeNumber_123 rfl rfl ?_
      refine r_iload_n hC dX2_takeNumber_124 rfl rfl ?_
      refine r_callSN hC (d_S_beyond hw) kC11_beyond kn2_78 kT11_beyond kN11 dd_11_beyond ⟨Nat.le_of_ble_eq_true rfl, Nat.le_of_ble_eq_true rfl⟩ rfl (Nat.le_of_ble_eq_true rfl) dX2_takeNumber_125 (fun r M' hp => ?_)
      obtain ⟨rfl, a11, rfl, hw⟩ := hp
      try dsimp only at hw
      obtain ⟨o12, hw⟩ := hw
      obtain ⟨hwt, hwf⟩ := hw
      refine r_if_eq hC 137 dX2_takeNumber_128 (by decide) o12.1 o12.2 (fun c14 => ?_) (fun c14 => ?_)
      · have hw := hwt c14
        exact r_subk (s_Reader_takeNumber_j3 hC hQ hw) ⟨rfl, rfl, rfl, trivial⟩
      · have hw := hwf c14
        exact r_subk (s_Reader_takeNumber_j2 hC hQ hw) ⟨rfl, rfl, rfl, rfl, trivial⟩
  · have hw := hwf c5
    refine r_aload_n hC dX2_takeNumber_102 rfl rfl ?_
    refine r_iconst hC dX2_takeNumber_103 ?_
    refine r_iload_n hC dX2_takeNumber_104 rfl rfl ?_
    refine r_callV hC (d_Reader_fail hw) rfl kC2_fail km2_52 kI2_fail kS2_fail kN2 dd_2_fail ⟨Nat.le_of_ble_eq_true rfl, Nat.le_of_ble_eq_true rfl⟩ rfl (Nat.le_of_ble_eq_true rfl) dX2_takeNumber_105 (fun r M' hp => ?_)
    obtain ⟨rfl, hw⟩ := hp
    try dsimp only at hw
    refine r_goto hC 137 dX2_takeNumber_108 (by decide) ?_
    exact r_subk (s_Reader_takeNumber_j3 hC hQ hw) ⟨rfl, rfl, rfl, trivial⟩
def w_Reader_takeNumber_j0 (Q : Int → Mem → Prop) (X12 : Int → Mem → Prop) (x1 : Int) (x2 : Int) (x3 : Int) (x4 : Int) (M : Mem) : Prop :=
  ∀ a1 : Int, a1 = M 11 5 → 0 ≤ a1 → a1 ≤ 200 → (0 ≤ a1 + 1 ∧ a1 + 1 ≤ 200) ∧ (∀ M4 : Mem, M4 = mset M 11 5 (a1 + 1) → X12 x4 M4)
set_option maxRecDepth 100000 in
set_option maxHeartbeats 4000000 in
theorem s_Reader_takeNumber_j0 {Q : Int → Mem → Prop} {X12 : Int → Mem → Prop} {x1 : Int} {x2 : Int} {x3 : Int} {x4 : Int} {M : Mem} (hC : rC p R s m args meth c cells slots D aC ad 5 cX2_takeNumber RX2 1 22 (some .int)) (hQ : ∀ (pc : Nat) (L : List (Nat × RV)) (z : Int) (M : Mem), decode cX2_takeNumber pc = .ok (.ireturn, 1) → Q z M → rG p l e R s m args below meth c cells slots Qs D aC ad 5 pc L [vI z] M) (hX12 : ∀ (x4 : Int) (M : Mem), X12 x4 M → rG p l e R s m args below meth c cells slots Qs D aC ad 5 12 [(0, vR 11), (1, vI x1), (2, vI x2), (3, vI x3), (4, vI x4)] [] M) (hw : w_Reader_takeNumber_j0 Q X12 x1 x2 x3 x4 M) : rG p l e R s m args below meth c cells slots Qs D aC ad 5 81 [(0, vR 11), (1, vI x1), (2, vI x2), (3, vI x3), (4, vI x4)] [] M := by
  unfold w_Reader_takeNumber_j0 at hw
  refine r_aload_n hC dX2_takeNumber_81 rfl rfl ?_
  refine r_dup hC dX2_takeNumber_82 rfl ?_
  refine r_getI hC 5 rfl (by decide) kf2_29 rfl rfl dX2_takeNumber_83 (fun b2 b2' => ?_)
  replace hw := hw _ rfl b2 b2'
  refine r_iconst hC dX2_takeNumber_86 ?_
  refine r_iadd hC dX2_takeNumber_87 ?_
  obtain ⟨o3, hw⟩ := hw
  refine r_putI hC 5 rfl (by decide) kf2_29 rfl rfl o3.1 o3.2 dX2_takeNumber_88 ?_
  replace hw := hw _ rfl
  refine r_goto hC 12 dX2_takeNumber_91 (by decide) ?_
  exact r_subk (hX12 _ _ hw) ⟨rfl, rfl, rfl, rfl, rfl, trivial⟩
def w_Reader_takeNumber_B0 (Q : Int → Mem → Prop) (x1 : Int) (x2 : Int) (x3 : Int) (X12 : Int → Mem → Prop) (x4 : Int) (M : Mem) : Prop :=
  ∀ a1 : Int, a1 = M 11 5 → 0 ≤ a1 → a1 ≤ 200 → ∀ a3 : Int, a3 = M 11 1 → 0 ≤ a3 → a3 ≤ 200 → (a3 ≤ a1 → w_Reader_takeNumber_j1 Q x1 x2 x3 x4 M) ∧ (¬ (a3 ≤ a1) → ∀ a8 : Int, a8 = M 11 5 → 0 ≤ a8 → a8 ≤ 200 → (0 ≤ a8 ∧ a8 < 200) ∧ (∀ a11 : Int, a11 = M 52 a8 → 0 ≤ a11 → a11 ≤ 255 → (a11 < 48 → w_Reader_takeNumber_j1 Q x1 x2 x3 x4 M) ∧ (¬ (a11 < 48) → ∀ a16 : Int, a16 = M 11 5 → 0 ≤ a16 → a16 ≤ 200 → (0 ≤ a16 ∧ a16 < 200) ∧ (∀ a19 : Int, a19 = M 52 a16 → 0 ≤ a19 → a19 ≤ 255 → (57 < a19 → w_Reader_takeNumber_j1 Q x1 x2 x3 x4 M) ∧ (¬ (57 < a19) → ∀ a24 : Int, a24 = M 11 5 → 0 ≤ a24 → a24 ≤ 200 → (-2147483648 ≤ a24 - x3 ∧ a24 - x3 ≤ 2147483647) ∧ ((4 ≤ a24 - x3 → w_Reader_takeNumber_j0 Q X12 x1 x2 x3 x4 M) ∧ (¬ (4 ≤ a24 - x3) → ∀ a29 : Int, a29 = M 11 5 → 0 ≤ a29 → a29 ≤ 200 → (0 ≤ a29 ∧ a29 < 200) ∧ (∀ a32 : Int, a32 = M 52 a29 → 0 ≤ a32 → a32 ≤ 255 → w_Reader_takeNumber_j0 Q X12 x1 x2 x3 (((x4 * 10) + a32) - 48) M))))))))
set_option maxRecDepth 100000 in
set_option maxHeartbeats 4000000 in
theorem s_Reader_takeNumber_B0 {Q : Int → Mem → Prop} {x1 : Int} {x2 : Int} {x3 : Int} {X12 : Int → Mem → Prop} {x4 : Int} {M : Mem} (hC : rC p R s m args meth c cells slots D aC ad 5 cX2_takeNumber RX2 1 22 (some .int)) (hQ : ∀ (pc : Nat) (L : List (Nat × RV)) (z : Int) (M : Mem), decode cX2_takeNumber pc = .ok (.ireturn, 1) → Q z M → rG p l e R s m args below meth c cells slots Qs D aC ad 5 pc L [vI z] M) (hX12 : ∀ (x4 : Int) (M : Mem), X12 x4 M → rG p l e R s m args below meth c cells slots Qs D aC ad 5 12 [(0, vR 11), (1, vI x1), (2, vI x2), (3, vI x3), (4, vI x4)] [] M) (hw : w_Reader_takeNumber_B0 Q x1 x2 x3 X12 x4 M) : rG p l e R s m args below meth c cells slots Qs D aC ad 5 12 [(0, vR 11), (1, vI x1), (2, vI x2), (3, vI x3), (4, vI x4)] [] M := by
  unfold w_Reader_takeNumber_B0 at hw
  refine r_aload_n hC dX2_takeNumber_12 rfl rfl ?_
  refine r_getI hC 5 rfl (by decide) kf2_29 rfl rfl dX2_takeNumber_13 (fun b2 b2' => ?_)
  replace hw := hw _ rfl b2 b2'
  refine r_aload_n hC dX2_takeNumber_16 rfl rfl ?_
  refine r_getI hC 1 rfl (by decide) kf2_24 rfl rfl dX2_takeNumber_17 (fun b4 b4' => ?_)
  replace hw := hw _ rfl b4 b4'
  obtain ⟨hwt, hwf⟩ := hw
  refine r_icmp_ge hC 94 dX2_takeNumber_20 (by decide) (by omega) (by omega) (by omega) (by omega) (fun c7 => ?_) (fun c7 => ?_)
  · have hw := hwt c7
    exact r_subk (s_Reader_takeNumber_j1 hC hQ hw) ⟨rfl, rfl, rfl, rfl, rfl, trivial⟩
  · have hw := hwf c7
    refine r_aload_n hC dX2_takeNumber_23 rfl rfl ?_
    refine r_getR hC 4 rfl (by decide) kf2_21 rfl rfl dX2_takeNumber_24 ?_
    refine r_aload_n hC dX2_takeNumber_27 rfl rfl ?_
    refine r_getI hC 5 rfl (by decide) kf2_29 rfl rfl dX2_takeNumber_28 (fun b9 b9' => ?_)
    replace hw := hw _ rfl b9 b9'
    obtain ⟨o10, hw⟩ := hw
    refine r_iald hC rfl o10.1 o10.2 (by decide) (by decide) dX2_takeNumber_31 (fun b12 b12' => ?_)
    replace hw := hw _ rfl b12 b12'
    refine r_bipush hC dX2_takeNumber_32 (by decide) ?_
    obtain ⟨hwt, hwf⟩ := hw
    refine r_icmp_lt hC 94 dX2_takeNumber_34 (by decide) (by omega) (by omega) (by decide) (by decide) (fun c15 => ?_) (fun c15 => ?_)
    · have hw := hwt c15
      exact r_subk (s_Reader_takeNumber_j1 hC hQ hw) ⟨rfl, rfl, rfl, rfl, rfl, trivial⟩
    · have hw := hwf c15
      refine r_aload_n hC dX2_takeNumber_37 rfl rfl ?_
      refine r_getR hC 4 rfl (by decide) kf2_21 rfl rfl dX2_takeNumber_38 ?_
      refine r_aload_n hC dX2_takeNumber_41 rfl rfl ?_
      refine r_getI hC 5 rfl (by decide) kf2_29 rfl rfl dX2_takeNumber_42 (fun b17 b17' => ?_)
      replace hw := hw _ rfl b17 b17'
      obtain ⟨o18, hw⟩ := hw
      refine r_iald hC rfl o18.1 o18.2 (by decide) (by decide) dX2_takeNumber_45 (fun b20 b20' => ?_)
      replace hw := hw _ rfl b20 b20'
      refine r_bipush hC dX2_takeNumber_46 (by decide) ?_
      obtain ⟨hwt, hwf⟩ := hw
      refine r_icmp_gt hC 94 dX2_takeNumber_48 (by decide) (by omega) (by omega) (by decide) (by decide) (fun c23 => ?_) (fun c23 => ?_)
      · have hw := hwt c23
        exact r_subk (s_Reader_takeNumber_j1 hC hQ hw) ⟨rfl, rfl, rfl, rfl, rfl, trivial⟩
      · have hw := hwf c23
        refine r_aload_n hC dX2_takeNumber_51 rfl rfl ?_
        refine r_getI hC 5 rfl (by decide) kf2_29 rfl rfl dX2_takeNumber_52 (fun b25 b25' => ?_)
        replace hw := hw _ rfl b25 b25'
        refine r_iload_n hC dX2_takeNumber_55 rfl rfl ?_
        refine r_isub hC dX2_takeNumber_56 ?_
        refine r_iconst hC dX2_takeNumber_57 ?_
        obtain ⟨o26, hw⟩ := hw
        obtain ⟨hwt, hwf⟩ := hw
        refine r_icmp_ge hC 81 dX2_takeNumber_58 (by decide) o26.1 o26.2 (by decide) (by decide) (fun c28 => ?_) (fun c28 => ?_)
        · have hw := hwt c28
          exact r_subk (s_Reader_takeNumber_j0 hC hQ hX12 hw) ⟨rfl, rfl, rfl, rfl, rfl, trivial⟩
        · have hw := hwf c28
          refine r_iload hC dX2_takeNumber_61 rfl ?_
          refine r_bipush hC dX2_takeNumber_63 (by decide) ?_
          refine r_imul hC dX2_takeNumber_65 ?_
          refine r_aload_n hC dX2_takeNumber_66 rfl rfl ?_
          refine r_getR hC 4 rfl (by decide) kf2_21 rfl rfl dX2_takeNumber_67 ?_
          refine r_aload_n hC dX2_takeNumber_70 rfl rfl ?_
          refine r_getI hC 5 rfl (by decide) kf2_29 rfl rfl dX2_takeNumber_71 (fun b30 b30' => ?_)
          replace hw := hw _ rfl b30 b30'
          obtain ⟨o31, hw⟩ := hw
          refine r_iald hC rfl o31.1 o31.2 (by decide) (by decide) dX2_takeNumber_74 (fun b33 b33' => ?_)
          replace hw := hw _ rfl b33 b33'
          refine r_iadd hC dX2_takeNumber_75 ?_
          refine r_bipush hC dX2_takeNumber_76 (by decide) ?_
          refine r_isub hC dX2_takeNumber_78 ?_
          refine r_istore hC dX2_takeNumber_79 (by decide) ?_
          exact r_subk (s_Reader_takeNumber_j0 hC hQ hX12 hw) ⟨rfl, rfl, rfl, rfl, rfl, trivial⟩
def w_Reader_takeNumber_L0 (Q : Int → Mem → Prop) (x1 : Int) (x2 : Int) (x3 : Int) (x4 : Int) (M : Mem) : Prop :=
  ∀ X : Int → Mem → Prop, (∀ (x4 : Int) (M : Mem), w_Reader_takeNumber_B0 Q x1 x2 x3 X x4 M → X x4 M) → X x4 M
set_option maxRecDepth 100000 in
set_option maxHeartbeats 4000000 in
theorem s_Reader_takeNumber_L0 {Q : Int → Mem → Prop} {x1 : Int} {x2 : Int} {x3 : Int} {x4 : Int} {M : Mem} (hC : rC p R s m args meth c cells slots D aC ad 5 cX2_takeNumber RX2 1 22 (some .int)) (hQ : ∀ (pc : Nat) (L : List (Nat × RV)) (z : Int) (M : Mem), decode cX2_takeNumber pc = .ok (.ireturn, 1) → Q z M → rG p l e R s m args below meth c cells slots Qs D aC ad 5 pc L [vI z] M) (hw : w_Reader_takeNumber_L0 Q x1 x2 x3 x4 M) : rG p l e R s m args below meth c cells slots Qs D aC ad 5 12 [(0, vR 11), (1, vI x1), (2, vI x2), (3, vI x3), (4, vI x4)] [] M := by
  unfold w_Reader_takeNumber_L0 at hw
  exact hw (fun x4 M => rG p l e R s m args below meth c cells slots Qs D aC ad 5 12 [(0, vR 11), (1, vI x1), (2, vI x2), (3, vI x3), (4, vI x4)] [] M) (fun x4 M hb => s_Reader_takeNumber_B0 hC hQ (fun _ _ h => h) hb)
def w_Reader_takeNumber (M : Mem) (x1 : Int) (x2 : Int) (Q : Int → Mem → Prop) : Prop :=
  w_Reader_skipBlanks M (fun M2 => ∀ a3 : Int, a3 = M2 11 5 → 0 ≤ a3 → a3 ≤ 200 → w_Reader_takeNumber_L0 Q x1 x2 a3 0 M2)
set_option maxRecDepth 100000 in
set_option maxHeartbeats 4000000 in
theorem s_Reader_takeNumber {M : Mem} {x1 : Int} {x2 : Int} {Q : Int → Mem → Prop} (hC : rC p R s m args meth c cells slots D aC ad 5 cX2_takeNumber RX2 1 22 (some .int)) (hQ : ∀ (pc : Nat) (L : List (Nat × RV)) (z : Int) (M : Mem), decode cX2_takeNumber pc = .ok (.ireturn, 1) → Q z M → rG p l e R s m args below meth c cells slots Qs D aC ad 5 pc L [vI z] M) (hw : w_Reader_takeNumber M x1 x2 Q) : rG p l e R s m args below meth c cells slots Qs D aC ad 5 0 [(0, vR 11), (1, vI x1), (2, vI x2)] [] M := by
  unfold w_Reader_takeNumber at hw
  refine r_aload_n hC dX2_takeNumber_0 rfl rfl ?_
  refine r_callV hC (d_Reader_skipBlanks hw) rfl kC2_skipBlanks km2_42 kI2_skipBlanks kS2_skipBlanks kN2 dd_2_skipBlanks ⟨Nat.le_of_ble_eq_true rfl, Nat.le_of_ble_eq_true rfl⟩ rfl (Nat.le_of_ble_eq_true rfl) dX2_takeNumber_1 (fun r M' hp => ?_)
  obtain ⟨rfl, hw⟩ := hp
  try dsimp only at hw
  refine r_aload_n hC dX2_takeNumber_4 rfl rfl ?_
  refine r_getI hC 5 rfl (by decide) kf2_29 rfl rfl dX2_takeNumber_5 (fun b4 b4' => ?_)
  replace hw := hw _ rfl b4 b4'
  refine r_istore_n hC dX2_takeNumber_8 rfl (by decide) ?_
  refine r_iconst hC dX2_takeNumber_9 ?_
  refine r_istore hC dX2_takeNumber_10 (by decide) ?_
  exact r_subk (s_Reader_takeNumber_L0 hC hQ hw) ⟨rfl, rfl, rfl, rfl, rfl, trivial⟩
set_option maxRecDepth 100000 in
set_option maxHeartbeats 4000000 in
theorem d_Reader_takeNumber {l : Launch} {D : va_G} {aC : Nat → ClassId} {ad : Nat → Nat} {M : Mem} {x1 : Int} {x2 : Int} {Q : Int → Mem → Prop} (hw : w_Reader_takeNumber M x1 x2 Q) : Does l D aC ad yX2_takeNumber cX2_takeNumber 5 (some .int) 1 22 [vR 11, vI x1, vI x2] M (pI Q) :=
  Does.of (by decide) (Nat.le_of_ble_eq_true rfl) (fun p e R s m args below meth c hC => r_subk (s_Reader_takeNumber hC (fun pc L z M d h => r_iret hC d ⟨z, rfl, h⟩) hw) ⟨rfl, rfl, rfl, trivial⟩)
/-- SoupSand$Reader.isNext -/
def w_Reader_isNext (M : Mem) (x1 : Int) (Q : Int → Prop) : Prop :=
  ∀ a1 : Int, a1 = M 11 5 → 0 ≤ a1 → a1 ≤ 200 → ∀ a3 : Int, a3 = M 11 1 → 0 ≤ a3 → a3 ≤ 200 → (a3 ≤ a1 → Q 0) ∧ (¬ (a3 ≤ a1) → ∀ a9 : Int, a9 = M 11 5 → 0 ≤ a9 → a9 ≤ 200 → (0 ≤ a9 ∧ a9 < 200) ∧ (∀ a12 : Int, a12 = M 52 a9 → 0 ≤ a12 → a12 ≤ 255 → (-2147483648 ≤ x1 ∧ x1 ≤ 2147483647) ∧ ((¬ (a12 = x1) → Q 0) ∧ (a12 = x1 → Q 1))))
set_option maxRecDepth 100000 in
set_option maxHeartbeats 4000000 in
theorem s_Reader_isNext {M : Mem} {x1 : Int} {Q : Int → Prop} (hC : rC p R s m args meth c cells slots D aC ad 2 cX2_isNext RX2 0 0 (some .boolean)) (hQ : ∀ (pc : Nat) (L : List (Nat × RV)) (z : Int), decode cX2_isNext pc = .ok (.ireturn, 1) → 0 ≤ z → z ≤ 1 → Q z → rG p l e R s m args below meth c cells slots Qs D aC ad 2 pc L [vI z] M) (hw : w_Reader_isNext M x1 Q) : rG p l e R s m args below meth c cells slots Qs D aC ad 2 0 [(0, vR 11), (1, vI x1)] [] M := by
  unfold w_Reader_isNext at hw
  refine r_aload_n hC dX2_isNext_0 rfl rfl ?_
  refine r_getI hC 5 rfl (by decide) kf2_29 rfl rfl dX2_isNext_1 (fun b2 b2' => ?_)
  replace hw := hw _ rfl b2 b2'
  refine r_aload_n hC dX2_isNext_4 rfl rfl ?_
  refine r_getI hC 1 rfl (by decide) kf2_24 rfl rfl dX2_isNext_5 (fun b4 b4' => ?_)
  replace hw := hw _ rfl b4 b4'
  obtain ⟨hwt, hwf⟩ := hw
  refine r_icmp_ge hC 28 dX2_isNext_8 (by decide) (by omega) (by omega) (by omega) (by omega) (fun c7 => ?_) (fun c7 => ?_)
  · have hw := hwt c7
    refine r_iconst hC dX2_isNext_28 ?_
    exact hQ _ _ _ dX2_isNext_29 (by decide) (by decide) hw
  · have hw := hwf c7
    refine r_aload_n hC dX2_isNext_11 rfl rfl ?_
    refine r_getR hC 4 rfl (by decide) kf2_21 rfl rfl dX2_isNext_12 ?_
    refine r_aload_n hC dX2_isNext_15 rfl rfl ?_
    refine r_getI hC 5 rfl (by decide) kf2_29 rfl rfl dX2_isNext_16 (fun b10 b10' => ?_)
    replace hw := hw _ rfl b10 b10'
    obtain ⟨o11, hw⟩ := hw
    refine r_iald hC rfl o11.1 o11.2 (by decide) (by decide) dX2_isNext_19 (fun b13 b13' => ?_)
    replace hw := hw _ rfl b13 b13'
    refine r_iload_n hC dX2_isNext_20 rfl rfl ?_
    obtain ⟨o15, hw⟩ := hw
    obtain ⟨hwt, hwf⟩ := hw
    refine r_icmp_ne hC 28 dX2_isNext_21 (by decide) (by omega) (by omega) o15.1 o15.2 (fun c16 => ?_) (fun c16 => ?_)
    · have hw := hwt c16
      refine r_iconst hC dX2_isNext_28 ?_
      exact hQ _ _ _ dX2_isNext_29 (by decide) (by decide) hw
    · have hw := hwf c16
      refine r_iconst hC dX2_isNext_24 ?_
      refine r_goto hC 29 dX2_isNext_25 (by decide) ?_
      exact hQ _ _ _ dX2_isNext_29 (by decide) (by decide) hw
set_option maxRecDepth 100000 in
set_option maxHeartbeats 4000000 in
theorem d_Reader_isNext {l : Launch} {D : va_G} {aC : Nat → ClassId} {ad : Nat → Nat} {M : Mem} {x1 : Int} {Q : Int → Prop} (hw : w_Reader_isNext M x1 Q) : Does l D aC ad yX2_isNext cX2_isNext 2 (some .boolean) 0 0 [vR 11, vI x1] M (qI M Q) :=
  Does.of (by decide) (Nat.le_of_ble_eq_true rfl) (fun p e R s m args below meth c hC => r_subk (s_Reader_isNext hC (fun pc L z d z1 z2 h => r_zret hC d z1 z2 ⟨rfl, ⟨z, rfl, h⟩⟩) hw) ⟨rfl, rfl, trivial⟩)
theorem dd_2_isNext : yX2_isNext.cls ≠ "java/lang/invoke/MethodHandle" ∧ yX2_isNext.cls ≠ "java/lang/invoke/VarHandle" ∧ (parseMethodDescriptor yX2_isNext.desc).map (fun d => d.parameters.length) = some 1 := by decide +kernel
theorem dd_2_takeNumber : yX2_takeNumber.cls ≠ "java/lang/invoke/MethodHandle" ∧ yX2_takeNumber.cls ≠ "java/lang/invoke/VarHandle" ∧ (parseMethodDescriptor yX2_takeNumber.desc).map (fun d => d.parameters.length) = some 2 := by decide +kernel
theorem dd_2_takeWord : yX2_takeWord.cls ≠ "java/lang/invoke/MethodHandle" ∧ yX2_takeWord.cls ≠ "java/lang/invoke/VarHandle" ∧ (parseMethodDescriptor yX2_takeWord.desc).map (fun d => d.parameters.length) = some 0 := by decide +kernel
theorem dd_3_highest : yX3_highest.cls ≠ "java/lang/invoke/MethodHandle" ∧ yX3_highest.cls ≠ "java/lang/invoke/VarHandle" ∧ (parseMethodDescriptor yX3_highest.desc).map (fun d => d.parameters.length) = some 1 := by decide +kernel
theorem dd_3_lowest : yX3_lowest.cls ≠ "java/lang/invoke/MethodHandle" ∧ yX3_lowest.cls ≠ "java/lang/invoke/VarHandle" ∧ (parseMethodDescriptor yX3_lowest.desc).map (fun d => d.parameters.length) = some 1 := by decide +kernel
/-- SoupSand$Reader.takeKind -/
def w_Reader_takeKind_j2 (Q : Mem → Prop) (X11 : Int → Int → Mem → Prop) (x1 : Int) (x2 : Int) (x3 : Int) (x5 : Int) (M : Mem) : Prop :=
  (-2147483648 ≤ x5 ∧ x5 ≤ 2147483647) ∧ (X11 (bOr x2 (bShl 1 (max 0 x5))) (x3 + 1) M)
set_option maxRecDepth 100000 in
set_option maxHeartbeats 4000000 in
theorem s_Reader_takeKind_j2 {Q : Mem → Prop} {X11 : Int → Int → Mem → Prop} {x1 : Int} {x2 : Int} {x3 : Int} {x5 : Int} {M : Mem} (hC : rC p R s m args meth c cells slots D aC ad 6 cX2_takeKind RX2 7 177 none) (hQ : ∀ (pc : Nat) (L : List (Nat × RV)) (M : Mem), decode cX2_takeKind pc = .ok (.return_, 1) → Q M → rG p l e R s m args below meth c cells slots Qs D aC ad 6 pc L [] M) (hX11 : ∀ (x2 : Int) (x3 : Int) (M : Mem), X11 x2 x3 M → rG p l e R s m args below meth c cells slots Qs D aC ad 6 11 [(0, vR 11), (1, vI x1), (2, vI x2), (3, vI x3)] [] M) (hw : w_Reader_takeKind_j2 Q X11 x1 x2 x3 x5 M) : rG p l e R s m args below meth c cells slots Qs D aC ad 6 119 [(0, vR 11), (1, vI x1), (2, vI x2), (3, vI x3), (5, vI x5)] [] M := by
  unfold w_Reader_takeKind_j2 at hw
  refine r_iload_n hC dX2_takeKind_119 rfl rfl ?_
  refine r_iconst hC dX2_takeKind_120 ?_
  refine r_iconst hC dX2_takeKind_121 ?_
  refine r_iload hC dX2_takeKind_122 rfl ?_
  obtain ⟨o2, hw⟩ := hw
  refine r_max hC km2_73 (by decide) (Nat.le_of_ble_eq_true rfl) dX2_takeKind_124 (by decide) (by decide) o2.1 o2.2 ?_
  refine r_ishl hC dX2_takeKind_127 ?_
  refine r_ior hC dX2_takeKind_128 ?_
  refine r_istore_n hC dX2_takeKind_129 rfl (by decide) ?_
  refine r_iinc hC dX2_takeKind_130 rfl (by decide) ?_
  refine r_goto hC 11 dX2_takeKind_133 (by decide) ?_
  exact r_subk (hX11 _ _ _ hw) ⟨rfl, rfl, rfl, rfl, trivial⟩
def w_Reader_takeKind_j1 (Q : Mem → Prop) (X11 : Int → Int → Mem → Prop) (x1 : Int) (x2 : Int) (x3 : Int) (x4 : Int) (x5 : Int) (M : Mem) : Prop :=
  w_Reader_fail M 1 x4 (fun M2 => w_Reader_takeKind_j2 Q X11 x1 x2 x3 x5 M2)
set_option maxRecDepth 100000 in
set_option maxHeartbeats 4000000 in
theorem s_Reader_takeKind_j1 {Q : Mem → Prop} {X11 : Int → Int → Mem → Prop} {x1 : Int} {x2 : Int} {x3 : Int} {x4 : Int} {x5 : Int} {M : Mem} (hC : rC p R s m args meth c cells slots D aC ad 6 cX2_takeKind RX2 7 177 none) (hQ : ∀ (pc : Nat) (L : List (Nat × RV)) (M : Mem), decode cX2_takeKind pc = .ok (.return_, 1) → Q M → rG p l e R s m args below meth c cells slots Qs D aC ad 6 pc L [] M) (hX11 : ∀ (x2 : Int) (x3 : Int) (M : Mem), X11 x2 x3 M → rG p l e R s m args below meth c cells slots Qs D aC ad 6 11 [(0, vR 11), (1, vI x1), (2, vI x2), (3, vI x3)] [] M) (hw : w_Reader_takeKind_j1 Q X11 x1 x2 x3 x4 x5 M) : rG p l e R s m args below meth c cells slots Qs D aC ad 6 64 [(0, vR 11), (1, vI x1), (2, vI x2), (3, vI x3), (4, vI x4), (5, vI x5)] [] M := by
  unfold w_Reader_takeKind_j1 at hw
  refine r_aload_n hC dX2_takeKind_64 rfl rfl ?_
  refine r_iconst hC dX2_takeKind_65 ?_
  refine r_iload hC dX2_takeKind_66 rfl ?_
  refine r_callV hC (d_Reader_fail hw) rfl kC2_fail km2_52 kI2_fail kS2_fail kN2 dd_2_fail ⟨Nat.le_of_ble_eq_true rfl, Nat.le_of_ble_eq_true rfl⟩ rfl (Nat.le_of_ble_eq_true rfl) dX2_takeKind_68 (fun r M' hp => ?_)
  obtain ⟨rfl, hw⟩ := hp
  try dsimp only at hw
  refine r_goto hC 119 dX2_takeKind_71 (by decide) ?_
  exact r_subk (s_Reader_takeKind_j2 hC hQ hX11 hw) ⟨rfl, rfl, rfl, rfl, rfl, trivial⟩
def w_Reader_takeKind_j0 (Q : Mem → Prop) (X11 : Int → Int → Mem → Prop) (x1 : Int) (x2 : Int) (x3 : Int) (M : Mem) : Prop :=
  ∀ a1 : Int, a1 = M 11 5 → 0 ≤ a1 → a1 ≤ 200 → w_Reader_takeWord M (fun a3 M4 => (-2147483648 ≤ a3 ∧ a3 ≤ 2147483647) ∧ ((a3 < 0 → w_Reader_takeKind_j1 Q X11 x1 x2 x3 a1 a3 M4) ∧ (¬ (a3 < 0) → (-2147483648 ≤ a3 ∧ a3 ≤ 2147483647) ∧ ((a3 < 5 → (-2147483648 ≤ bAnd (bShr x2 a3) 1 ∧ bAnd (bShr x2 a3) 1 ≤ 2147483647) ∧ ((¬ (bAnd (bShr x2 a3) 1 = 1) → w_Rules_lowest M4 a3 (fun a14 => w_Rules_highest M4 a3 (fun a15 => w_Reader_takeNumber M4 a14 a15 (fun a16 M17 => ((0 ≤ (x1 * 5) + a3 ∧ (x1 * 5) + a3 < 25) ∧ (0 ≤ a16 ∧ a16 ≤ 999)) ∧ (∀ M19 : Mem, M19 = mset M17 51 ((x1 * 5) + a3) a16 → w_Reader_takeKind_j2 Q X11 x1 x2 x3 a3 M19))))) ∧ (bAnd (bShr x2 a3) 1 = 1 → w_Reader_fail M4 3 a1 (fun M21 => w_Reader_takeKind_j2 Q X11 x1 x2 x3 a3 M21)))) ∧ (¬ (a3 < 5) → w_Reader_takeKind_j1 Q X11 x1 x2 x3 a1 a3 M4)))))
set_option maxRecDepth 100000 in
set_option maxHeartbeats 4000000 in
theorem s_Reader_takeKind_j0 {Q : Mem → Prop} {X11 : Int → Int → Mem → Prop} {x1 : Int} {x2 : Int} {x3 : Int} {M : Mem} (hC : rC p R s m args meth c cells slots D aC ad 6 cX2_takeKind RX2 7 177 none) (hQ : ∀ (pc : Nat) (L : List (Nat × RV)) (M : Mem), decode cX2_takeKind pc = .ok (.return_, 1) → Q M → rG p l e R s m args below meth c cells slots Qs D aC ad 6 pc L [] M) (hX11 : ∀ (x2 : Int) (x3 : Int) (M : Mem), X11 x2 x3 M → rG p l e R s m args below meth c cells slots Qs D aC ad 6 11 [(0, vR 11), (1, vI x1), (2, vI x2), (3, vI x3)] [] M) (hw : w_Reader_takeKind_j0 Q X11 x1 x2 x3 M) : rG p l e R s m args below meth c cells slots Qs D aC ad 6 41 [(0, vR 11), (1, vI x1), (2, vI x2), (3, vI x3)] [] M := by
  unfold w_Reader_takeKind_j0 at hw
  refine r_aload_n hC dX2_takeKind_41 rfl rfl ?_
  refine r_getI hC 5 rfl (by decide) kf2_29 rfl rfl dX2_takeKind_42 (fun b2 b2' => ?_)
  replace hw := hw _ rfl b2 b2'
  refine r_istore hC dX2_takeKind_45 (by decide) ?_
  refine r_aload_n hC dX2_takeKind_47 rfl rfl ?_
  refine r_callV hC (d_Reader_takeWord hw) rfl kC2_takeWord km2_48 kI2_takeWord kS2_takeWord kN2 dd_2_takeWord ⟨Nat.le_of_ble_eq_true rfl, Nat.le_of_ble_eq_true rfl⟩ rfl (Nat.le_of_ble_eq_true rfl) dX2_takeKind_48 (fun r M' hp => ?_)
  obtain ⟨a3, rfl, hw⟩ := hp
  try dsimp only at hw
  refine r_istore hC dX2_takeKind_51 (by decide) ?_
  refine r_iload hC dX2_takeKind_53 rfl ?_
  obtain ⟨o5, hw⟩ := hw
  obtain ⟨hwt, hwf⟩ := hw
  refine r_if_lt hC 64 dX2_takeKind_55 (by decide) o5.1 o5.2 (fun c7 => ?_) (fun c7 => ?_)
  · have hw := hwt c7
    exact r_subk (s_Reader_takeKind_j1 hC hQ hX11 hw) ⟨rfl, rfl, rfl, rfl, rfl, rfl, trivial⟩
  · have hw := hwf c7
    refine r_iload hC dX2_takeKind_58 rfl ?_
    refine r_iconst hC dX2_takeKind_60 ?_
    obtain ⟨o8, hw⟩ := hw
    obtain ⟨hwt, hwf⟩ := hw
    refine r_icmp_lt hC 74 dX2_takeKind_61 (by decide) o8.1 o8.2 (by decide) (by decide) (fun c10 => ?_) (fun c10 => ?_)
    · have hw := hwt c10
      refine r_iload_n hC dX2_takeKind_74 rfl rfl ?_
      refine r_iload hC dX2_takeKind_75 rfl ?_
      refine r_ishr hC dX2_takeKind_77 ?_
      refine r_iconst hC dX2_takeKind_78 ?_
      refine r_iand hC dX2_takeKind_79 ?_
      refine r_iconst hC dX2_takeKind_80 ?_
      obtain ⟨o11, hw⟩ := hw
      obtain ⟨hwt, hwf⟩ := hw
      refine r_icmp_ne hC 94 dX2_takeKind_81 (by decide) o11.1 o11.2 (by decide) (by decide) (fun c13 => ?_) (fun c13 => ?_)
      · have hw := hwt c13
        refine r_aload_n hC dX2_takeKind_94 rfl rfl ?_
        refine r_getR hC 0 rfl (by decide) kf2_11 rfl rfl dX2_takeKind_95 ?_
        refine r_iload_n hC dX2_takeKind_98 rfl rfl ?_
        refine r_iconst hC dX2_takeKind_99 ?_
        refine r_imul hC dX2_takeKind_100 ?_
        refine r_iload hC dX2_takeKind_101 rfl ?_
        refine r_iadd hC dX2_takeKind_103 ?_
        refine r_aload_n hC dX2_takeKind_104 rfl rfl ?_
        refine r_iload hC dX2_takeKind_105 rfl ?_
        refine r_callS hC (d_Rules_lowest hw) kC3_lowest km2_59 kT3_lowest kN3 dd_3_lowest ⟨Nat.le_of_ble_eq_true rfl, Nat.le_of_ble_eq_true rfl⟩ rfl (Nat.le_of_ble_eq_true rfl) dX2_takeKind_107 (fun r M' hp => ?_)
        obtain ⟨rfl, a14, rfl, hw⟩ := hp
        try dsimp only at hw
        refine r_iload hC dX2_takeKind_110 rfl ?_
        refine r_callS hC (d_Rules_highest hw) kC3_highest km2_62 kT3_highest kN3 dd_3_highest ⟨Nat.le_of_ble_eq_true rfl, Nat.le_of_ble_eq_true rfl⟩ rfl (Nat.le_of_ble_eq_true rfl) dX2_takeKind_112 (fun r M' hp => ?_)
        obtain ⟨rfl, a15, rfl, hw⟩ := hp
        try dsimp only at hw
        refine r_callV hC (d_Reader_takeNumber hw) rfl kC2_takeNumber km2_65 kI2_takeNumber kS2_takeNumber kN2 dd_2_takeNumber ⟨Nat.le_of_ble_eq_true rfl, Nat.le_of_ble_eq_true rfl⟩ rfl (Nat.le_of_ble_eq_true rfl) dX2_takeKind_115 (fun r M' hp => ?_)
        obtain ⟨a16, rfl, hw⟩ := hp
        try dsimp only at hw
        obtain ⟨o18, hw⟩ := hw
        refine r_iast hC rfl o18.1.1 o18.1.2 (by decide) (by decide) o18.2.1 o18.2.2 dX2_takeKind_118 ?_
        replace hw := hw _ rfl
        exact r_subk (s_Reader_takeKind_j2 hC hQ hX11 hw) ⟨rfl, rfl, rfl, rfl, rfl, trivial⟩
      · have hw := hwf c13
        refine r_aload_n hC dX2_takeKind_84 rfl rfl ?_
        refine r_iconst hC dX2_takeKind_85 ?_
        refine r_iload hC dX2_takeKind_86 rfl ?_
        refine r_callV hC (d_Reader_fail hw) rfl kC2_fail km2_52 kI2_fail kS2_fail kN2 dd_2_fail ⟨Nat.le_of_ble_eq_true rfl, Nat.le_of_ble_eq_true rfl⟩ rfl (Nat.le_of_ble_eq_true rfl) dX2_takeKind_88 (fun r M' hp => ?_)
        obtain ⟨rfl, hw⟩ := hp
        try dsimp only at hw
        refine r_goto hC 119 dX2_takeKind_91 (by decide) ?_
        exact r_subk (s_Reader_takeKind_j2 hC hQ hX11 hw) ⟨rfl, rfl, rfl, rfl, rfl, trivial⟩
    · have hw := hwf c10
      exact r_subk (s_Reader_takeKind_j1 hC hQ hX11 hw) ⟨rfl, rfl, rfl, rfl, rfl, rfl, trivial⟩
def w_Reader_takeKind_B0 (Q : Mem → Prop) (x1 : Int) (X11 : Int → Int → Mem → Prop) (x2 : Int) (x3 : Int) (M : Mem) : Prop :=
  (-2147483648 ≤ x3 ∧ x3 ≤ 2147483647) ∧ ((5 < x3 → Q M) ∧ (¬ (5 < x3) → ∀ a4 : Int, a4 = M 11 2 → 0 ≤ a4 → a4 ≤ 4 → (¬ (a4 = 0) → Q M) ∧ (a4 = 0 → w_Reader_skipBlanks M (fun M10 => (-2147483648 ≤ x3 ∧ x3 ≤ 2147483647) ∧ ((x3 ≤ 0 → w_Reader_takeKind_j0 Q X11 x1 x2 x3 M10) ∧ (¬ (x3 ≤ 0) → w_Reader_isNext M10 59 (fun a14 => (-2147483648 ≤ a14 ∧ a14 ≤ 2147483647) ∧ ((a14 = 0 → w_Reader_takeKind_j0 Q X11 x1 x2 x3 M10) ∧ (¬ (a14 = 0) → Q M10)))))))))
set_option maxRecDepth 100000 in
set_option maxHeartbeats 4000000 in
theorem s_Reader_takeKind_B0 {Q : Mem → Prop} {x1 : Int} {X11 : Int → Int → Mem → Prop} {x2 : Int} {x3 : Int} {M : Mem} (hC : rC p R s m args meth c cells slots D aC ad 6 cX2_takeKind RX2 7 177 none) (hQ : ∀ (pc : Nat) (L : List (Nat × RV)) (M : Mem), decode cX2_takeKind pc = .ok (.return_, 1) → Q M → rG p l e R s m args below meth c cells slots Qs D aC ad 6 pc L [] M) (hX11 : ∀ (x2 : Int) (x3 : Int) (M : Mem), X11 x2 x3 M → rG p l e R s m args below meth c cells slots Qs D aC ad 6 11 [(0, vR 11), (1, vI x1), (2, vI x2), (3, vI x3)] [] M) (hw : w_Reader_takeKind_B0 Q x1 X11 x2 x3 M) : rG p l e R s m args below meth c cells slots Qs D aC ad 6 11 [(0, vR 11), (1, vI x1), (2, vI x2), (3, vI x3)] [] M := by
  unfold w_Reader_takeKind_B0 at hw
  refine r_iload_n hC dX2_takeKind_11 rfl rfl ?_
  refine r_iconst hC dX2_takeKind_12 ?_
  obtain ⟨o1, hw⟩ := hw
  obtain ⟨hwt, hwf⟩ := hw
  refine r_icmp_gt hC 136 dX2_takeKind_13 (by decide) o1.1 o1.2 (by decide) (by decide) (fun c3 => ?_) (fun c3 => ?_)
  · have hw := hwt c3
    exact hQ _ _ _ dX2_takeKind_136 hw
  · have hw := hwf c3
    refine r_aload_n hC dX2_takeKind_16 rfl rfl ?_
    refine r_getI hC 2 rfl (by decide) kf2_35 rfl rfl dX2_takeKind_17 (fun b5 b5' => ?_)
    replace hw := hw _ rfl b5 b5'
    obtain ⟨hwt, hwf⟩ := hw
    refine r_if_ne hC 136 dX2_takeKind_20 (by decide) (by omega) (by omega) (fun c8 => ?_) (fun c8 => ?_)
    · have hw := hwt c8
      exact hQ _ _ _ dX2_takeKind_136 hw
    · have hw := hwf c8
      refine r_aload_n hC dX2_takeKind_23 rfl rfl ?_
      refine r_callV hC (d_Reader_skipBlanks hw) rfl kC2_skipBlanks km2_42 kI2_skipBlanks kS2_skipBlanks kN2 dd_2_skipBlanks ⟨Nat.le_of_ble_eq_true rfl, Nat.le_of_ble_eq_true rfl⟩ rfl (Nat.le_of_ble_eq_true rfl) dX2_takeKind_24 (fun r M' hp => ?_)
      obtain ⟨rfl, hw⟩ := hp
      try dsimp only at hw
      refine r_iload_n hC dX2_takeKind_27 rfl rfl ?_
      obtain ⟨o11, hw⟩ := hw
      obtain ⟨hwt, hwf⟩ := hw
      refine r_if_le hC 41 dX2_takeKind_28 (by decide) o11.1 o11.2 (fun c13 => ?_) (fun c13 => ?_)
      · have hw := hwt c13
        exact r_subk (s_Reader_takeKind_j0 hC hQ hX11 hw) ⟨rfl, rfl, rfl, rfl, trivial⟩
      · have hw := hwf c13
        refine r_aload_n hC dX2_takeKind_31 rfl rfl ?_
        refine r_bipush hC dX2_takeKind_32 (by decide) ?_
        refine r_callV hC (d_Reader_isNext hw) rfl kC2_isNext km2_69 kI2_isNext kS2_isNext kN2 dd_2_isNext ⟨Nat.le_of_ble_eq_true rfl, Nat.le_of_ble_eq_true rfl⟩ rfl (Nat.le_of_ble_eq_true rfl) dX2_takeKind_34 (fun r M' hp => ?_)
        obtain ⟨rfl, a14, rfl, hw⟩ := hp
        try dsimp only at hw
        obtain ⟨o15, hw⟩ := hw
        obtain ⟨hwt, hwf⟩ := hw
        refine r_if_eq hC 41 dX2_takeKind_37 (by decide) o15.1 o15.2 (fun c17 => ?_) (fun c17 => ?_)
        · have hw := hwt c17
          exact r_subk (s_Reader_takeKind_j0 hC hQ hX11 hw) ⟨rfl, rfl, rfl, rfl, trivial⟩
        · have hw := hwf c17
          exact hQ _ _ _ dX2_takeKind_40 hw
def w_Reader_takeKind_L0 (Q : Mem → Prop) (x1 : Int) (x2 : Int) (x3 : Int) (M : Mem) : Prop :=
  ∀ X : Int → Int → Mem → Prop, (∀ (x2 : Int) (x3 : Int) (M : Mem), w_Reader_takeKind_B0 Q x1 X x2 x3 M → X x2 x3 M) → X x2 x3 M
set_option maxRecDepth 100000 in
set_option maxHeartbeats 4000000 in
theorem s_Reader_takeKind_L0 {Q : Mem → Prop} {x1 : Int} {x2 : Int} {x3 : Int} {M : Mem} (hC : rC p R s m args meth c cells slots D aC ad 6 cX2_takeKind RX2 7 177 none) (hQ : ∀ (pc : Nat) (L : List (Nat × RV)) (M : Mem), decode cX2_takeKind pc = .ok (.return_, 1) → Q M → rG p l e R s m args below meth c cells slots Qs D aC ad 6 pc L [] M) (hw : w_Reader_takeKind_L0 Q x1 x2 x3 M) : rG p l e R s m args below meth c cells slots Qs D aC ad 6 11 [(0, vR 11), (1, vI x1), (2, vI x2), (3, vI x3)] [] M := by
  unfold w_Reader_takeKind_L0 at hw
  exact hw (fun x2 x3 M => rG p l e R s m args below meth c cells slots Qs D aC ad 6 11 [(0, vR 11), (1, vI x1), (2, vI x2), (3, vI x3)] [] M) (fun x2 x3 M hb => s_Reader_takeKind_B0 hC hQ (fun _ _ _ h => h) hb)
def w_Reader_takeKind (M : Mem) (Q : Mem → Prop) : Prop :=
  w_Reader_takeNumber M 0 3 (fun a1 M2 => w_Reader_takeKind_L0 Q a1 0 0 M2)
set_option maxRecDepth 100000 in
set_option maxHeartbeats 4000000 in
theorem s_Reader_takeKind {M : Mem} {Q : Mem → Prop} (hC : rC p R s m args meth c cells slots D aC ad 6 cX2_takeKind RX2 7 177 none) (hQ : ∀ (pc : Nat) (L : List (Nat × RV)) (M : Mem), decode cX2_takeKind pc = .ok (.return_, 1) → Q M → rG p l e R s m args below meth c cells slots Qs D aC ad 6 pc L [] M) (hw : w_Reader_takeKind M Q) : rG p l e R s m args below meth c cells slots Qs D aC ad 6 0 [(0, vR 11)] [] M := by
  unfold w_Reader_takeKind at hw
  refine r_aload_n hC dX2_takeKind_0 rfl rfl ?_
  refine r_iconst hC dX2_takeKind_1 ?_
  refine r_iconst hC dX2_takeKind_2 ?_
  refine r_callV hC (d_Reader_takeNumber hw) rfl kC2_takeNumber km2_65 kI2_takeNumber kS2_takeNumber kN2 dd_2_takeNumber ⟨Nat.le_of_ble_eq_true rfl, Nat.le_of_ble_eq_true rfl⟩ rfl (Nat.le_of_ble_eq_true rfl) dX2_takeKind_3 (fun r M' hp => ?_)
  obtain ⟨a1, rfl, hw⟩ := hp
  try dsimp only at hw
  refine r_istore_n hC dX2_takeKind_6 rfl (by decide) ?_
  refine r_iconst hC dX2_takeKind_7 ?_
  refine r_istore_n hC dX2_takeKind_8 rfl (by decide) ?_
  refine r_iconst hC dX2_takeKind_9 ?_
  refine r_istore_n hC dX2_takeKind_10 rfl (by decide) ?_
  exact r_subk (s_Reader_takeKind_L0 hC hQ hw) ⟨rfl, rfl, rfl, rfl, trivial⟩
set_option maxRecDepth 100000 in
set_option maxHeartbeats 4000000 in
theorem d_Reader_takeKind {l : Launch} {D : va_G} {aC : Nat → ClassId} {ad : Nat → Nat} {M : Mem} {Q : Mem → Prop} (hw : w_Reader_takeKind M Q) : Does l D aC ad yX2_takeKind cX2_takeKind 6 none 7 177 [vR 11] M (pV Q) :=
  Does.of (by decide) (Nat.le_of_ble_eq_true rfl) (fun p e R s m args below meth c hC => r_subk (s_Reader_takeKind hC (fun pc L M d h => r_vret hC d ⟨rfl, h⟩) hw) ⟨rfl, trivial⟩)
theorem dd_2_takeKind : yX2_takeKind.cls ≠ "java/lang/invoke/MethodHandle" ∧ yX2_takeKind.cls ≠ "java/lang/invoke/VarHandle" ∧ (parseMethodDescriptor yX2_takeKind.desc).map (fun d => d.parameters.length) = some 0 := by decide +kernel
/-- SoupSand$Reader.takeClause -/
def w_Reader_takeClause_j1 (Q : Mem → Prop) (M : Mem) : Prop :=
  ∀ a1 : Int, a1 = M 11 6 → 0 ≤ a1 → a1 ≤ 201 → (0 ≤ a1 + 1 ∧ a1 + 1 ≤ 201) ∧ (∀ M4 : Mem, M4 = mset M 11 6 (a1 + 1) → Q M4)
set_option maxRecDepth 100000 in
set_option maxHeartbeats 4000000 in
theorem s_Reader_takeClause_j1 {Q : Mem → Prop} {M : Mem} (hC : rC p R s m args meth c cells slots D aC ad 3 cX2_takeClause RX2 8 202 none) (hQ : ∀ (pc : Nat) (L : List (Nat × RV)) (M : Mem), decode cX2_takeClause pc = .ok (.return_, 1) → Q M → rG p l e R s m args below meth c cells slots Qs D aC ad 3 pc L [] M) (hw : w_Reader_takeClause_j1 Q M) : rG p l e R s m args below meth c cells slots Qs D aC ad 3 109 [(0, vR 11)] [] M := by
  unfold w_Reader_takeClause_j1 at hw
  refine r_aload_n hC dX2_takeClause_109 rfl rfl ?_
  refine r_dup hC dX2_takeClause_110 rfl ?_
  refine r_getI hC 6 rfl (by decide) kf2_32 rfl rfl dX2_takeClause_111 (fun b2 b2' => ?_)
  replace hw := hw _ rfl b2 b2'
  refine r_iconst hC dX2_takeClause_114 ?_
  refine r_iadd hC dX2_takeClause_115 ?_
  obtain ⟨o3, hw⟩ := hw
  refine r_putI hC 6 rfl (by decide) kf2_32 rfl rfl o3.1 o3.2 dX2_takeClause_116 ?_
  replace hw := hw _ rfl
  exact hQ _ _ _ dX2_takeClause_119 hw
def w_Reader_takeClause_j0 (Q : Mem → Prop) (M : Mem) : Prop :=
  w_Reader_skipBlanks M (fun M2 => w_Reader_isNext M2 59 (fun a3 => (-2147483648 ≤ a3 ∧ a3 ≤ 2147483647) ∧ ((a3 = 0 → ∀ a7 : Int, a7 = M2 11 5 → 0 ≤ a7 → a7 ≤ 200 → w_Reader_fail M2 1 a7 (fun M10 => w_Reader_takeClause_j1 Q M10)) ∧ (¬ (a3 = 0) → ∀ a11 : Int, a11 = M2 11 5 → 0 ≤ a11 → a11 ≤ 200 → (0 ≤ a11 + 1 ∧ a11 + 1 ≤ 200) ∧ (∀ M14 : Mem, M14 = mset M2 11 5 (a11 + 1) → w_Reader_takeClause_j1 Q M14)))))
set_option maxRecDepth 100000 in
set_option maxHeartbeats 4000000 in
theorem s_Reader_takeClause_j0 {Q : Mem → Prop} {M : Mem} (hC : rC p R s m args meth c cells slots D aC ad 3 cX2_takeClause RX2 8 202 none) (hQ : ∀ (pc : Nat) (L : List (Nat × RV)) (M : Mem), decode cX2_takeClause pc = .ok (.return_, 1) → Q M → rG p l e R s m args below meth c cells slots Qs D aC ad 3 pc L [] M) (hw : w_Reader_takeClause_j0 Q M) : rG p l e R s m args below meth c cells slots Qs D aC ad 3 74 [(0, vR 11)] [] M := by
  unfold w_Reader_takeClause_j0 at hw
  refine r_aload_n hC dX2_takeClause_74 rfl rfl ?_
  refine r_callV hC (d_Reader_skipBlanks hw) rfl kC2_skipBlanks km2_42 kI2_skipBlanks kS2_skipBlanks kN2 dd_2_skipBlanks ⟨Nat.le_of_ble_eq_true rfl, Nat.le_of_ble_eq_true rfl⟩ rfl (Nat.le_of_ble_eq_true rfl) dX2_takeClause_75 (fun r M' hp => ?_)
  obtain ⟨rfl, hw⟩ := hp
  try dsimp only at hw
  refine r_aload_n hC dX2_takeClause_78 rfl rfl ?_
  refine r_bipush hC dX2_takeClause_79 (by decide) ?_
  refine r_callV hC (d_Reader_isNext hw) rfl kC2_isNext km2_69 kI2_isNext kS2_isNext kN2 dd_2_isNext ⟨Nat.le_of_ble_eq_true rfl, Nat.le_of_ble_eq_true rfl⟩ rfl (Nat.le_of_ble_eq_true rfl) dX2_takeClause_81 (fun r M' hp => ?_)
  obtain ⟨rfl, a3, rfl, hw⟩ := hp
  try dsimp only at hw
  obtain ⟨o4, hw⟩ := hw
  obtain ⟨hwt, hwf⟩ := hw
  refine r_if_eq hC 100 dX2_takeClause_84 (by decide) o4.1 o4.2 (fun c6 => ?_) (fun c6 => ?_)
  · have hw := hwt c6
    refine r_aload_n hC dX2_takeClause_100 rfl rfl ?_
    refine r_iconst hC dX2_takeClause_101 ?_
    refine r_aload_n hC dX2_takeClause_102 rfl rfl ?_
    refine r_getI hC 5 rfl (by decide) kf2_29 rfl rfl dX2_takeClause_103 (fun b8 b8' => ?_)
    replace hw := hw _ rfl b8 b8'
    refine r_callV hC (d_Reader_fail hw) rfl kC2_fail km2_52 kI2_fail kS2_fail kN2 dd_2_fail ⟨Nat.le_of_ble_eq_true rfl, Nat.le_of_ble_eq_true rfl⟩ rfl (Nat.le_of_ble_eq_true rfl) dX2_takeClause_106 (fun r M' hp => ?_)
    obtain ⟨rfl, hw⟩ := hp
    try dsimp only at hw
    exact r_subk (s_Reader_takeClause_j1 hC hQ hw) ⟨rfl, trivial⟩
  · have hw := hwf c6
    refine r_aload_n hC dX2_takeClause_87 rfl rfl ?_
    refine r_dup hC dX2_takeClause_88 rfl ?_
    refine r_getI hC 5 rfl (by decide) kf2_29 rfl rfl dX2_takeClause_89 (fun b12 b12' => ?_)
    replace hw := hw _ rfl b12 b12'
    refine r_iconst hC dX2_takeClause_92 ?_
    refine r_iadd hC dX2_takeClause_93 ?_
    obtain ⟨o13, hw⟩ := hw
    refine r_putI hC 5 rfl (by decide) kf2_29 rfl rfl o13.1 o13.2 dX2_takeClause_94 ?_
    replace hw := hw _ rfl
    refine r_goto hC 109 dX2_takeClause_97 (by decide) ?_
    exact r_subk (s_Reader_takeClause_j1 hC hQ hw) ⟨rfl, trivial⟩
def w_Reader_takeClause (M : Mem) (Q : Mem → Prop) : Prop :=
  ∀ a1 : Int, a1 = M 11 5 → 0 ≤ a1 → a1 ≤ 200 → w_Reader_takeWord M (fun a3 M4 => (-2147483648 ≤ a3 ∧ a3 ≤ 2147483647) ∧ ((20 ≤ a3 → ∀ a8 : Int, a8 = M4 11 6 → 0 ≤ a8 → a8 ≤ 201 → (a8 < 12 → (-2147483648 ≤ a3 ∧ a3 ≤ 2147483647) ∧ ((¬ (a3 = 25) → w_Rules_lowest M4 a3 (fun a16 => w_Rules_highest M4 a3 (fun a17 => w_Reader_takeNumber M4 a16 a17 (fun a18 M19 => ((0 ≤ a3 ∧ a3 < 25) ∧ (0 ≤ a18 ∧ a18 ≤ 999)) ∧ (∀ M21 : Mem, M21 = mset M19 51 a3 a18 → w_Reader_takeClause_j0 Q M21))))) ∧ (a3 = 25 → w_Reader_takeKind M4 (fun M23 => w_Reader_takeClause_j0 Q M23)))) ∧ (¬ (a8 < 12) → w_Reader_fail M4 4 a1 (fun M25 => w_Reader_takeClause_j0 Q M25))) ∧ (¬ (20 ≤ a3) → w_Reader_fail M4 1 a1 (fun M27 => w_Reader_takeClause_j0 Q M27))))
set_option maxRecDepth 100000 in
set_option maxHeartbeats 4000000 in
theorem s_Reader_takeClause {M : Mem} {Q : Mem → Prop} (hC : rC p R s m args meth c cells slots D aC ad 3 cX2_takeClause RX2 8 202 none) (hQ : ∀ (pc : Nat) (L : List (Nat × RV)) (M : Mem), decode cX2_takeClause pc = .ok (.return_, 1) → Q M → rG p l e R s m args below meth c cells slots Qs D aC ad 3 pc L [] M) (hw : w_Reader_takeClause M Q) : rG p l e R s m args below meth c cells slots Qs D aC ad 3 0 [(0, vR 11)] [] M := by
  unfold w_Reader_takeClause at hw
  refine r_aload_n hC dX2_takeClause_0 rfl rfl ?_
  refine r_getI hC 5 rfl (by decide) kf2_29 rfl rfl dX2_takeClause_1 (fun b2 b2' => ?_)
  replace hw := hw _ rfl b2 b2'
  refine r_istore_n hC dX2_takeClause_4 rfl (by decide) ?_
  refine r_aload_n hC dX2_takeClause_5 rfl rfl ?_
  refine r_callV hC (d_Reader_takeWord hw) rfl kC2_takeWord km2_48 kI2_takeWord kS2_takeWord kN2 dd_2_takeWord ⟨Nat.le_of_ble_eq_true rfl, Nat.le_of_ble_eq_true rfl⟩ rfl (Nat.le_of_ble_eq_true rfl) dX2_takeClause_6 (fun r M' hp => ?_)
  obtain ⟨a3, rfl, hw⟩ := hp
  try dsimp only at hw
  refine r_istore_n hC dX2_takeClause_9 rfl (by decide) ?_
  refine r_iload_n hC dX2_takeClause_10 rfl rfl ?_
  refine r_bipush hC dX2_takeClause_11 (by decide) ?_
  obtain ⟨o5, hw⟩ := hw
  obtain ⟨hwt, hwf⟩ := hw
  refine r_icmp_ge hC 25 dX2_takeClause_13 (by decide) o5.1 o5.2 (by decide) (by decide) (fun c7 => ?_) (fun c7 => ?_)
  · have hw := hwt c7
    refine r_aload_n hC dX2_takeClause_25 rfl rfl ?_
    refine r_getI hC 6 rfl (by decide) kf2_32 rfl rfl dX2_takeClause_26 (fun b9 b9' => ?_)
    replace hw := hw _ rfl b9 b9'
    refine r_bipush hC dX2_takeClause_29 (by decide) ?_
    obtain ⟨hwt, hwf⟩ := hw
    refine r_icmp_lt hC 43 dX2_takeClause_31 (by decide) (by omega) (by omega) (by decide) (by decide) (fun c12 => ?_) (fun c12 => ?_)
    · have hw := hwt c12
      refine r_iload_n hC dX2_takeClause_43 rfl rfl ?_
      refine r_bipush hC dX2_takeClause_44 (by decide) ?_
      obtain ⟨o13, hw⟩ := hw
      obtain ⟨hwt, hwf⟩ := hw
      refine r_icmp_ne hC 56 dX2_takeClause_46 (by decide) o13.1 o13.2 (by decide) (by decide) (fun c15 => ?_) (fun c15 => ?_)
      · have hw := hwt c15
        refine r_aload_n hC dX2_takeClause_56 rfl rfl ?_
        refine r_getR hC 0 rfl (by decide) kf2_11 rfl rfl dX2_takeClause_57 ?_
        refine r_iload_n hC dX2_takeClause_60 rfl rfl ?_
        refine r_aload_n hC dX2_takeClause_61 rfl rfl ?_
        refine r_iload_n hC dX2_takeClause_62 rfl rfl ?_
        refine r_callS hC (d_Rules_lowest hw) kC3_lowest km2_59 kT3_lowest kN3 dd_3_lowest ⟨Nat.le_of_ble_eq_true rfl, Nat.le_of_ble_eq_true rfl⟩ rfl (Nat.le_of_ble_eq_true rfl) dX2_takeClause_63 (fun r M' hp => ?_)
        obtain ⟨rfl, a16, rfl, hw⟩ := hp
        try dsimp only at hw
        refine r_iload_n hC dX2_takeClause_66 rfl rfl ?_
        refine r_callS hC (d_Rules_highest hw) kC3_highest km2_62 kT3_highest kN3 dd_3_highest ⟨Nat.le_of_ble_eq_true rfl, Nat.le_of_ble_eq_true rfl⟩ rfl (Nat.le_of_ble_eq_true rfl) dX2_takeClause_67 (fun r M' hp => ?_)
        obtain ⟨rfl, a17, rfl, hw⟩ := hp
        try dsimp only at hw
        refine r_callV hC (d_Reader_takeNumber hw) rfl kC2_takeNumber km2_65 kI2_takeNumber kS2_takeNumber kN2 dd_2_takeNumber ⟨Nat.le_of_ble_eq_true rfl, Nat.le_of_ble_eq_true rfl⟩ rfl (Nat.le_of_ble_eq_true rfl) dX2_takeClause_70 (fun r M' hp => ?_)
        obtain ⟨a18, rfl, hw⟩ := hp
        try dsimp only at hw
        obtain ⟨o20, hw⟩ := hw
        refine r_iast hC rfl o20.1.1 o20.1.2 (by decide) (by decide) o20.2.1 o20.2.2 dX2_takeClause_73 ?_
        replace hw := hw _ rfl
        exact r_subk (s_Reader_takeClause_j0 hC hQ hw) ⟨rfl, trivial⟩
      · have hw := hwf c15
        refine r_aload_n hC dX2_takeClause_49 rfl rfl ?_
        refine r_callV hC (d_Reader_takeKind hw) rfl kC2_takeKind km2_56 kI2_takeKind kS2_takeKind kN2 dd_2_takeKind ⟨Nat.le_of_ble_eq_true rfl, Nat.le_of_ble_eq_true rfl⟩ rfl (Nat.le_of_ble_eq_true rfl) dX2_takeClause_50 (fun r M' hp => ?_)
        obtain ⟨rfl, hw⟩ := hp
        try dsimp only at hw
        refine r_goto hC 74 dX2_takeClause_53 (by decide) ?_
        exact r_subk (s_Reader_takeClause_j0 hC hQ hw) ⟨rfl, trivial⟩
    · have hw := hwf c12
      refine r_aload_n hC dX2_takeClause_34 rfl rfl ?_
      refine r_iconst hC dX2_takeClause_35 ?_
      refine r_iload_n hC dX2_takeClause_36 rfl rfl ?_
      refine r_callV hC (d_Reader_fail hw) rfl kC2_fail km2_52 kI2_fail kS2_fail kN2 dd_2_fail ⟨Nat.le_of_ble_eq_true rfl, Nat.le_of_ble_eq_true rfl⟩ rfl (Nat.le_of_ble_eq_true rfl) dX2_takeClause_37 (fun r M' hp => ?_)
      obtain ⟨rfl, hw⟩ := hp
      try dsimp only at hw
      refine r_goto hC 74 dX2_takeClause_40 (by decide) ?_
      exact r_subk (s_Reader_takeClause_j0 hC hQ hw) ⟨rfl, trivial⟩
  · have hw := hwf c7
    refine r_aload_n hC dX2_takeClause_16 rfl rfl ?_
    refine r_iconst hC dX2_takeClause_17 ?_
    refine r_iload_n hC dX2_takeClause_18 rfl rfl ?_
    refine r_callV hC (d_Reader_fail hw) rfl kC2_fail km2_52 kI2_fail kS2_fail kN2 dd_2_fail ⟨Nat.le_of_ble_eq_true rfl, Nat.le_of_ble_eq_true rfl⟩ rfl (Nat.le_of_ble_eq_true rfl) dX2_takeClause_19 (fun r M' hp => ?_)
    obtain ⟨rfl, hw⟩ := hp
    try dsimp only at hw
    refine r_goto hC 74 dX2_takeClause_22 (by decide) ?_
    exact r_subk (s_Reader_takeClause_j0 hC hQ hw) ⟨rfl, trivial⟩
set_option maxRecDepth 100000 in
set_option maxHeartbeats 4000000 in
theorem d_Reader_takeClause {l : Launch} {D : va_G} {aC : Nat → ClassId} {ad : Nat → Nat} {M : Mem} {Q : Mem → Prop} (hw : w_Reader_takeClause M Q) : Does l D aC ad yX2_takeClause cX2_takeClause 3 none 8 202 [vR 11] M (pV Q) :=
  Does.of (by decide) (Nat.le_of_ble_eq_true rfl) (fun p e R s m args below meth c hC => r_subk (s_Reader_takeClause hC (fun pc L M d h => r_vret hC d ⟨rfl, h⟩) hw) ⟨rfl, trivial⟩)
theorem dd_2_takeClause : yX2_takeClause.cls ≠ "java/lang/invoke/MethodHandle" ∧ yX2_takeClause.cls ≠ "java/lang/invoke/VarHandle" ∧ (parseMethodDescriptor yX2_takeClause.desc).map (fun d => d.parameters.length) = some 0 := by decide +kernel
theorem dd_3_first : yX3_first.cls ≠ "java/lang/invoke/MethodHandle" ∧ yX3_first.cls ≠ "java/lang/invoke/VarHandle" ∧ (parseMethodDescriptor yX3_first.desc).map (fun d => d.parameters.length) = some 1 := by decide +kernel
/-- SoupSand$Reader.parse -/
def w_Reader_parse_j0 (Q : Int → Mem → Prop) (M : Mem) : Prop :=
  ∀ M2 : Mem, M2 = mset M 11 1 0 → ∀ a3 : Int, a3 = M2 11 6 → 0 ≤ a3 → a3 ≤ 201 → Q a3 M2
set_option maxRecDepth 100000 in
set_option maxHeartbeats 4000000 in
theorem s_Reader_parse_j0 {Q : Int → Mem → Prop} {M : Mem} (hC : rC p R s m args meth c cells slots D aC ad 2 cX2_parse RX2 9 224 (some .int)) (hQ : ∀ (pc : Nat) (L : List (Nat × RV)) (z : Int) (M : Mem), decode cX2_parse pc = .ok (.ireturn, 1) → Q z M → rG p l e R s m args below meth c cells slots Qs D aC ad 2 pc L [vI z] M) (hw : w_Reader_parse_j0 Q M) : rG p l e R s m args below meth c cells slots Qs D aC ad 2 89 [(0, vR 11)] [] M := by
  unfold w_Reader_parse_j0 at hw
  refine r_aload_n hC dX2_parse_89 rfl rfl ?_
  refine r_iconst hC dX2_parse_90 ?_
  refine r_putI hC 1 rfl (by decide) kf2_24 rfl rfl (by decide) (by decide) dX2_parse_91 ?_
  replace hw := hw _ rfl
  refine r_aload_n hC dX2_parse_94 rfl rfl ?_
  refine r_getI hC 6 rfl (by decide) kf2_32 rfl rfl dX2_parse_95 (fun b4 b4' => ?_)
  replace hw := hw _ rfl b4 b4'
  exact hQ _ _ _ _ dX2_parse_98 hw
def w_Reader_parse_B1 (Q : Int → Mem → Prop) (X50 : Int → Mem → Prop) (x1 : Int) (M : Mem) : Prop :=
  (-2147483648 ≤ x1 ∧ x1 ≤ 2147483647) ∧ ((200 ≤ x1 → w_Reader_parse_j0 Q M) ∧ (¬ (200 ≤ x1) → ∀ a4 : Int, a4 = M 11 5 → 0 ≤ a4 → a4 ≤ 200 → ∀ a6 : Int, a6 = M 11 1 → 0 ≤ a6 → a6 ≤ 200 → (a6 ≤ a4 → w_Reader_parse_j0 Q M) ∧ (¬ (a6 ≤ a4) → ∀ a11 : Int, a11 = M 11 2 → 0 ≤ a11 → a11 ≤ 4 → (¬ (a11 = 0) → w_Reader_parse_j0 Q M) ∧ (a11 = 0 → w_Reader_takeClause M (fun M17 => w_Reader_skipBlanks M17 (fun M19 => X50 (x1 + 1) M19))))))
set_option maxRecDepth 100000 in
set_option maxHeartbeats 4000000 in
theorem s_Reader_parse_B1 {Q : Int → Mem → Prop} {X50 : Int → Mem → Prop} {x1 : Int} {M : Mem} (hC : rC p R s m args meth c cells slots D aC ad 2 cX2_parse RX2 9 224 (some .int)) (hQ : ∀ (pc : Nat) (L : List (Nat × RV)) (z : Int) (M : Mem), decode cX2_parse pc = .ok (.ireturn, 1) → Q z M → rG p l e R s m args below meth c cells slots Qs D aC ad 2 pc L [vI z] M) (hX50 : ∀ (x1 : Int) (M : Mem), X50 x1 M → rG p l e R s m args below meth c cells slots Qs D aC ad 2 50 [(0, vR 11), (1, vI x1)] [] M) (hw : w_Reader_parse_B1 Q X50 x1 M) : rG p l e R s m args below meth c cells slots Qs D aC ad 2 50 [(0, vR 11), (1, vI x1)] [] M := by
  unfold w_Reader_parse_B1 at hw
  refine r_iload_n hC dX2_parse_50 rfl rfl ?_
  refine r_sipush hC dX2_parse_51 (by decide) ?_
  obtain ⟨o1, hw⟩ := hw
  obtain ⟨hwt, hwf⟩ := hw
  refine r_icmp_ge hC 89 dX2_parse_54 (by decide) o1.1 o1.2 (by decide) (by decide) (fun c3 => ?_) (fun c3 => ?_)
  · have hw := hwt c3
    exact r_subk (s_Reader_parse_j0 hC hQ hw) ⟨rfl, trivial⟩
  · have hw := hwf c3
    refine r_aload_n hC dX2_parse_57 rfl rfl ?_
    refine r_getI hC 5 rfl (by decide) kf2_29 rfl rfl dX2_parse_58 (fun b5 b5' => ?_)
    replace hw := hw _ rfl b5 b5'
    refine r_aload_n hC dX2_parse_61 rfl rfl ?_
    refine r_getI hC 1 rfl (by decide) kf2_24 rfl rfl dX2_parse_62 (fun b7 b7' => ?_)
    replace hw := hw _ rfl b7 b7'
    obtain ⟨hwt, hwf⟩ := hw
    refine r_icmp_ge hC 89 dX2_parse_65 (by decide) (by omega) (by omega) (by omega) (by omega) (fun c10 => ?_) (fun c10 => ?_)
    · have hw := hwt c10
      exact r_subk (s_Reader_parse_j0 hC hQ hw) ⟨rfl, trivial⟩
    · have hw := hwf c10
      refine r_aload_n hC dX2_parse_68 rfl rfl ?_
      refine r_getI hC 2 rfl (by decide) kf2_35 rfl rfl dX2_parse_69 (fun b12 b12' => ?_)
      replace hw := hw _ rfl b12 b12'
      obtain ⟨hwt, hwf⟩ := hw
      refine r_if_ne hC 89 dX2_parse_72 (by decide) (by omega) (by omega) (fun c15 => ?_) (fun c15 => ?_)
      · have hw := hwt c15
        exact r_subk (s_Reader_parse_j0 hC hQ hw) ⟨rfl, trivial⟩
      · have hw := hwf c15
        refine r_aload_n hC dX2_parse_75 rfl rfl ?_
        refine r_callV hC (d_Reader_takeClause hw) rfl kC2_takeClause km2_45 kI2_takeClause kS2_takeClause kN2 dd_2_takeClause ⟨Nat.le_of_ble_eq_true rfl, Nat.le_of_ble_eq_true rfl⟩ rfl (Nat.le_of_ble_eq_true rfl) dX2_parse_76 (fun r M' hp => ?_)
        obtain ⟨rfl, hw⟩ := hp
        try dsimp only at hw
        refine r_aload_n hC dX2_parse_79 rfl rfl ?_
        refine r_callV hC (d_Reader_skipBlanks hw) rfl kC2_skipBlanks km2_42 kI2_skipBlanks kS2_skipBlanks kN2 dd_2_skipBlanks ⟨Nat.le_of_ble_eq_true rfl, Nat.le_of_ble_eq_true rfl⟩ rfl (Nat.le_of_ble_eq_true rfl) dX2_parse_80 (fun r M' hp => ?_)
        obtain ⟨rfl, hw⟩ := hp
        try dsimp only at hw
        refine r_iinc hC dX2_parse_83 rfl (by decide) ?_
        refine r_goto hC 50 dX2_parse_86 (by decide) ?_
        exact r_subk (hX50 _ _ hw) ⟨rfl, rfl, trivial⟩
def w_Reader_parse_L1 (Q : Int → Mem → Prop) (x1 : Int) (M : Mem) : Prop :=
  ∀ X : Int → Mem → Prop, (∀ (x1 : Int) (M : Mem), w_Reader_parse_B1 Q X x1 M → X x1 M) → X x1 M
set_option maxRecDepth 100000 in
set_option maxHeartbeats 4000000 in
theorem s_Reader_parse_L1 {Q : Int → Mem → Prop} {x1 : Int} {M : Mem} (hC : rC p R s m args meth c cells slots D aC ad 2 cX2_parse RX2 9 224 (some .int)) (hQ : ∀ (pc : Nat) (L : List (Nat × RV)) (z : Int) (M : Mem), decode cX2_parse pc = .ok (.ireturn, 1) → Q z M → rG p l e R s m args below meth c cells slots Qs D aC ad 2 pc L [vI z] M) (hw : w_Reader_parse_L1 Q x1 M) : rG p l e R s m args below meth c cells slots Qs D aC ad 2 50 [(0, vR 11), (1, vI x1)] [] M := by
  unfold w_Reader_parse_L1 at hw
  exact hw (fun x1 M => rG p l e R s m args below meth c cells slots Qs D aC ad 2 50 [(0, vR 11), (1, vI x1)] [] M) (fun x1 M hb => s_Reader_parse_B1 hC hQ (fun _ _ h => h) hb)
def w_Reader_parse_B0 (Q : Int → Mem → Prop) (X22 : Int → Mem → Prop) (x1 : Int) (M : Mem) : Prop :=
  (-2147483648 ≤ x1 ∧ x1 ≤ 2147483647) ∧ ((25 ≤ x1 → w_Reader_skipBlanks M (fun M5 => w_Reader_parse_L1 Q 0 M5)) ∧ (¬ (25 ≤ x1) → w_Rules_first M x1 (fun a6 => ((0 ≤ x1 ∧ x1 < 25) ∧ (0 ≤ a6 ∧ a6 ≤ 999)) ∧ (∀ M8 : Mem, M8 = mset M 51 x1 a6 → X22 (x1 + 1) M8))))
set_option maxRecDepth 100000 in
set_option maxHeartbeats 4000000 in
theorem s_Reader_parse_B0 {Q : Int → Mem → Prop} {X22 : Int → Mem → Prop} {x1 : Int} {M : Mem} (hC : rC p R s m args meth c cells slots D aC ad 2 cX2_parse RX2 9 224 (some .int)) (hQ : ∀ (pc : Nat) (L : List (Nat × RV)) (z : Int) (M : Mem), decode cX2_parse pc = .ok (.ireturn, 1) → Q z M → rG p l e R s m args below meth c cells slots Qs D aC ad 2 pc L [vI z] M) (hX22 : ∀ (x1 : Int) (M : Mem), X22 x1 M → rG p l e R s m args below meth c cells slots Qs D aC ad 2 22 [(0, vR 11), (1, vI x1)] [] M) (hw : w_Reader_parse_B0 Q X22 x1 M) : rG p l e R s m args below meth c cells slots Qs D aC ad 2 22 [(0, vR 11), (1, vI x1)] [] M := by
  unfold w_Reader_parse_B0 at hw
  refine r_iload_n hC dX2_parse_22 rfl rfl ?_
  refine r_bipush hC dX2_parse_23 (by decide) ?_
  obtain ⟨o1, hw⟩ := hw
  obtain ⟨hwt, hwf⟩ := hw
  refine r_icmp_ge hC 44 dX2_parse_25 (by decide) o1.1 o1.2 (by decide) (by decide) (fun c3 => ?_) (fun c3 => ?_)
  · have hw := hwt c3
    refine r_aload_n hC dX2_parse_44 rfl rfl ?_
    refine r_callV hC (d_Reader_skipBlanks hw) rfl kC2_skipBlanks km2_42 kI2_skipBlanks kS2_skipBlanks kN2 dd_2_skipBlanks ⟨Nat.le_of_ble_eq_true rfl, Nat.le_of_ble_eq_true rfl⟩ rfl (Nat.le_of_ble_eq_true rfl) dX2_parse_45 (fun r M' hp => ?_)
    obtain ⟨rfl, hw⟩ := hp
    try dsimp only at hw
    refine r_iconst hC dX2_parse_48 ?_
    refine r_istore_n hC dX2_parse_49 rfl (by decide) ?_
    exact r_subk (s_Reader_parse_L1 hC hQ hw) ⟨rfl, rfl, trivial⟩
  · have hw := hwf c3
    refine r_aload_n hC dX2_parse_28 rfl rfl ?_
    refine r_getR hC 0 rfl (by decide) kf2_11 rfl rfl dX2_parse_29 ?_
    refine r_iload_n hC dX2_parse_32 rfl rfl ?_
    refine r_iload_n hC dX2_parse_33 rfl rfl ?_
    refine r_callS hC (d_Rules_first hw) kC3_first km2_38 kT3_first kN3 dd_3_first ⟨Nat.le_of_ble_eq_true rfl, Nat.le_of_ble_eq_true rfl⟩ rfl (Nat.le_of_ble_eq_true rfl) dX2_parse_34 (fun r M' hp => ?_)
    obtain ⟨rfl, a6, rfl, hw⟩ := hp
    try dsimp only at hw
    obtain ⟨o7, hw⟩ := hw
    refine r_iast hC rfl o7.1.1 o7.1.2 (by decide) (by decide) o7.2.1 o7.2.2 dX2_parse_37 ?_
    replace hw := hw _ rfl
    refine r_iinc hC dX2_parse_38 rfl (by decide) ?_
    refine r_goto hC 22 dX2_parse_41 (by decide) ?_
    exact r_subk (hX22 _ _ hw) ⟨rfl, rfl, trivial⟩
def w_Reader_parse_L0 (Q : Int → Mem → Prop) (x1 : Int) (M : Mem) : Prop :=
  ∀ X : Int → Mem → Prop, (∀ (x1 : Int) (M : Mem), w_Reader_parse_B0 Q X x1 M → X x1 M) → X x1 M
set_option maxRecDepth 100000 in
set_option maxHeartbeats 4000000 in
theorem s_Reader_parse_L0 {Q : Int → Mem → Prop} {x1 : Int} {M : Mem} (hC : rC p R s m args meth c cells slots D aC ad 2 cX2_parse RX2 9 224 (some .int)) (hQ : ∀ (pc : Nat) (L : List (Nat × RV)) (z : Int) (M : Mem), decode cX2_parse pc = .ok (.ireturn, 1) → Q z M → rG p l e R s m args below meth c cells slots Qs D aC ad 2 pc L [vI z] M) (hw : w_Reader_parse_L0 Q x1 M) : rG p l e R s m args below meth c cells slots Qs D aC ad 2 22 [(0, vR 11), (1, vI x1)] [] M := by
  unfold w_Reader_parse_L0 at hw
  exact hw (fun x1 M => rG p l e R s m args below meth c cells slots Qs D aC ad 2 22 [(0, vR 11), (1, vI x1)] [] M) (fun x1 M hb => s_Reader_parse_B0 hC hQ (fun _ _ h => h) hb)
def w_Reader_parse (M : Mem) (Q : Int → Mem → Prop) : Prop :=
  ∀ M2 : Mem, M2 = mset M 11 5 0 → ∀ M4 : Mem, M4 = mset M2 11 6 0 → ∀ M6 : Mem, M6 = mset M4 11 2 0 → ∀ M8 : Mem, M8 = mset M6 11 3 (-1) → w_Reader_parse_L0 Q 0 M8
set_option maxRecDepth 100000 in
set_option maxHeartbeats 4000000 in
theorem s_Reader_parse {M : Mem} {Q : Int → Mem → Prop} (hC : rC p R s m args meth c cells slots D aC ad 2 cX2_parse RX2 9 224 (some .int)) (hQ : ∀ (pc : Nat) (L : List (Nat × RV)) (z : Int) (M : Mem), decode cX2_parse pc = .ok (.ireturn, 1) → Q z M → rG p l e R s m args below meth c cells slots Qs D aC ad 2 pc L [vI z] M) (hw : w_Reader_parse M Q) : rG p l e R s m args below meth c cells slots Qs D aC ad 2 0 [(0, vR 11)] [] M := by
  unfold w_Reader_parse at hw
  refine r_aload_n hC dX2_parse_0 rfl rfl ?_
  refine r_iconst hC dX2_parse_1 ?_
  refine r_putI hC 5 rfl (by decide) kf2_29 rfl rfl (by decide) (by decide) dX2_parse_2 ?_
  replace hw := hw _ rfl
  refine r_aload_n hC dX2_parse_5 rfl rfl ?_
  refine r_iconst hC dX2_parse_6 ?_
  refine r_putI hC 6 rfl (by decide) kf2_32 rfl rfl (by decide) (by decide) dX2_parse_7 ?_
  replace hw := hw _ rfl
  refine r_aload_n hC dX2_parse_10 rfl rfl ?_
  refine r_iconst hC dX2_parse_11 ?_
  refine r_putI hC 2 rfl (by decide) kf2_35 rfl rfl (by decide) (by decide) dX2_parse_12 ?_
  replace hw := hw _ rfl
  refine r_aload_n hC dX2_parse_15 rfl rfl ?_
  refine r_iconst hC dX2_parse_16 ?_
  refine r_putI hC 3 rfl (by decide) kf2_17 rfl rfl (by decide) (by decide) dX2_parse_17 ?_
  replace hw := hw _ rfl
  refine r_iconst hC dX2_parse_20 ?_
  refine r_istore_n hC dX2_parse_21 rfl (by decide) ?_
  exact r_subk (s_Reader_parse_L0 hC hQ hw) ⟨rfl, rfl, trivial⟩
set_option maxRecDepth 100000 in
set_option maxHeartbeats 4000000 in
theorem d_Reader_parse {l : Launch} {D : va_G} {aC : Nat → ClassId} {ad : Nat → Nat} {M : Mem} {Q : Int → Mem → Prop} (hw : w_Reader_parse M Q) : Does l D aC ad yX2_parse cX2_parse 2 (some .int) 9 224 [vR 11] M (pI Q) :=
  Does.of (by decide) (Nat.le_of_ble_eq_true rfl) (fun p e R s m args below meth c hC => r_subk (s_Reader_parse hC (fun pc L z M d h => r_iret hC d ⟨z, rfl, h⟩) hw) ⟨rfl, trivial⟩)
/-- SoupSand$Rules.become -/
def w_Rules_become (M : Mem) (Q : Mem → Prop) : Prop :=
  ((0 : Int) ≤ 0 ∧ (0 : Int) ≤ 0 ∧ (0 : Int) ≤ 25 ∧ (0 : Int) + 25 ≤ 25 ∧ (0 : Int) + 25 ≤ 25) ∧ (∀ M2 : Mem, M2 = mcpy M 51 0 30 0 25 → Q M2)
set_option maxRecDepth 100000 in
set_option maxHeartbeats 4000000 in
theorem s_Rules_become {M : Mem} {Q : Mem → Prop} (hC : rC p R s m args meth c cells slots D aC ad 2 cX3_become RX3 1 39 none) (hQ : ∀ (pc : Nat) (L : List (Nat × RV)) (M : Mem), decode cX3_become pc = .ok (.return_, 1) → Q M → rG p l e R s m args below meth c cells slots Qs D aC ad 2 pc L [] M) (hw : w_Rules_become M Q) : rG p l e R s m args below meth c cells slots Qs D aC ad 2 0 [(0, vR 4), (1, vR 51)] [] M := by
  unfold w_Rules_become at hw
  refine r_aload_n hC dX3_become_0 rfl rfl ?_
  refine r_iconst hC dX3_become_1 ?_
  refine r_aload_n hC dX3_become_2 rfl rfl ?_
  refine r_getR hC 0 rfl (by decide) kf3_9 rfl rfl dX3_become_3 ?_
  refine r_iconst hC dX3_become_6 ?_
  refine r_bipush hC dX3_become_7 (by decide) ?_
  obtain ⟨o1, hw⟩ := hw
  refine r_copy hC rfl rfl (by decide) (by decide) (by decide) km3_29 (by decide) (by decide) dX3_become_9 o1.1 o1.2.1 o1.2.2.1 o1.2.2.2.1 o1.2.2.2.2 ?_
  replace hw := hw _ rfl
  exact hQ _ _ _ dX3_become_12 hw
set_option maxRecDepth 100000 in
set_option maxHeartbeats 4000000 in
theorem d_Rules_become {l : Launch} {D : va_G} {aC : Nat → ClassId} {ad : Nat → Nat} {M : Mem} {Q : Mem → Prop} (hw : w_Rules_become M Q) : Does l D aC ad yX3_become cX3_become 2 none 1 39 [vR 4, vR 51] M (pV Q) :=
  Does.of (by decide) (Nat.le_of_ble_eq_true rfl) (fun p e R s m args below meth c hC => r_subk (s_Rules_become hC (fun pc L M d h => r_vret hC d ⟨rfl, h⟩) hw) ⟨rfl, rfl, trivial⟩)
theorem dd_2_parse : yX2_parse.cls ≠ "java/lang/invoke/MethodHandle" ∧ yX2_parse.cls ≠ "java/lang/invoke/VarHandle" ∧ (parseMethodDescriptor yX2_parse.desc).map (fun d => d.parameters.length) = some 0 := by decide +kernel
theorem dd_3_become : yX3_become.cls ≠ "java/lang/invoke/MethodHandle" ∧ yX3_become.cls ≠ "java/lang/invoke/VarHandle" ∧ (parseMethodDescriptor yX3_become.desc).map (fun d => d.parameters.length) = some 1 := by decide +kernel
/-- SoupSand.read -/
def w_S_read (M : Mem) (Q : Int → Mem → Prop) : Prop :=
  w_Reader_parse M (fun a1 M2 => ∀ a3 : Int, a3 = M2 11 2 → 0 ≤ a3 → a3 ≤ 4 → (a3 = 0 → w_Rules_become M2 (fun M9 => w_Words_forget M9 (fun M11 => Q a1 M11))) ∧ (¬ (a3 = 0) → ∀ a12 : Int, a12 = M2 11 2 → 0 ≤ a12 → a12 ≤ 4 → Q ((-10) - a12) M2))
set_option maxRecDepth 100000 in
set_option maxHeartbeats 4000000 in
theorem s_S_read {M : Mem} {Q : Int → Mem → Prop} (hC : rC p R s m args meth c cells slots D aC ad 2 cX11_read RX11 10 245 (some .int)) (hQ : ∀ (pc : Nat) (L : List (Nat × RV)) (z : Int) (M : Mem), decode cX11_read pc = .ok (.ireturn, 1) → Q z M → rG p l e R s m args below meth c cells slots Qs D aC ad 2 pc L [vI z] M) (hw : w_S_read M Q) : rG p l e R s m args below meth c cells slots Qs D aC ad 2 0 [(0, vR 0)] [] M := by
  unfold w_S_read at hw
  refine r_aload_n hC dX11_read_0 rfl rfl ?_
  refine r_getR hC 10 rfl (by decide) kf11_76 rfl rfl dX11_read_1 ?_
  refine r_callV hC (d_Reader_parse hw) rfl kC2_parse km11_429 kI2_parse kS2_parse kN2 dd_2_parse ⟨Nat.le_of_ble_eq_true rfl, Nat.le_of_ble_eq_true rfl⟩ rfl (Nat.le_of_ble_eq_true rfl) dX11_read_4 (fun r M' hp => ?_)
  obtain ⟨a1, rfl, hw⟩ := hp
  try dsimp only at hw
  refine r_istore_n hC dX11_read_7 rfl (by decide) ?_
  refine r_aload_n hC dX11_read_8 rfl rfl ?_
  refine r_getR hC 10 rfl (by decide) kf11_76 rfl rfl dX11_read_9 ?_
  refine r_getI hC 2 rfl (by decide) kf11_432 rfl rfl dX11_read_12 (fun b4 b4' => ?_)
  replace hw := hw _ rfl b4 b4'
  obtain ⟨hwt, hwf⟩ := hw
  refine r_if_eq hC 29 dX11_read_15 (by decide) (by omega) (by omega) (fun c7 => ?_) (fun c7 => ?_)
  · have hw := hwt c7
    refine r_aload_n hC dX11_read_29 rfl rfl ?_
    refine r_getR hC 3 rfl (by decide) kf11_30 rfl rfl dX11_read_30 ?_
    refine r_aload_n hC dX11_read_33 rfl rfl ?_
    refine r_getR hC 10 rfl (by decide) kf11_76 rfl rfl dX11_read_34 ?_
    refine r_getR hC 0 rfl (by decide) kf11_435 rfl rfl dX11_read_37 ?_
    refine r_callV hC (d_Rules_become hw) rfl kC3_become km11_438 kI3_become kS3_become kN3 dd_3_become ⟨Nat.le_of_ble_eq_true rfl, Nat.le_of_ble_eq_true rfl⟩ rfl (Nat.le_of_ble_eq_true rfl) dX11_read_40 (fun r M' hp => ?_)
    obtain ⟨rfl, hw⟩ := hp
    try dsimp only at hw
    refine r_aload_n hC dX11_read_43 rfl rfl ?_
    refine r_getR hC 4 rfl (by decide) kf11_34 rfl rfl dX11_read_44 ?_
    refine r_callV hC (d_Words_forget hw) rfl kC9_forget km11_97 kI9_forget kS9_forget kN9 dd_9_forget ⟨Nat.le_of_ble_eq_true rfl, Nat.le_of_ble_eq_true rfl⟩ rfl (Nat.le_of_ble_eq_true rfl) dX11_read_47 (fun r M' hp => ?_)
    obtain ⟨rfl, hw⟩ := hp
    try dsimp only at hw
    refine r_iload_n hC dX11_read_50 rfl rfl ?_
    exact hQ _ _ _ _ dX11_read_51 hw
  · have hw := hwf c7
    refine r_bipush hC dX11_read_18 (by decide) ?_
    refine r_aload_n hC dX11_read_20 rfl rfl ?_
    refine r_getR hC 10 rfl (by decide) kf11_76 rfl rfl dX11_read_21 ?_
    refine r_getI hC 2 rfl (by decide) kf11_432 rfl rfl dX11_read_24 (fun b13 b13' => ?_)
    replace hw := hw _ rfl b13 b13'
    refine r_isub hC dX11_read_27 ?_
    exact hQ _ _ _ _ dX11_read_28 hw
set_option maxRecDepth 100000 in
set_option maxHeartbeats 4000000 in
theorem d_S_read {l : Launch} {D : va_G} {aC : Nat → ClassId} {ad : Nat → Nat} {M : Mem} {Q : Int → Mem → Prop} (hw : w_S_read M Q) : Does l D aC ad yX11_read cX11_read 2 (some .int) 10 245 [vR 0] M (pI Q) :=
  Does.of (by decide) (Nat.le_of_ble_eq_true rfl) (fun p e R s m args below meth c hC => r_subk (s_S_read hC (fun pc L z M d h => r_iret hC d ⟨z, rfl, h⟩) hw) ⟨rfl, trivial⟩)
/-- SoupSand.fault -/
def w_S_fault (M : Mem) (Q : Int → Prop) : Prop :=
  ∀ a1 : Int, a1 = M 11 3 → -1 ≤ a1 → a1 ≤ 200 → Q a1
set_option maxRecDepth 100000 in
set_option maxHeartbeats 4000000 in
theorem s_S_fault {M : Mem} {Q : Int → Prop} (hC : rC p R s m args meth c cells slots D aC ad 1 cX11_fault RX11 0 0 (some .int)) (hQ : ∀ (pc : Nat) (L : List (Nat × RV)) (z : Int), decode cX11_fault pc = .ok (.ireturn, 1) → Q z → rG p l e R s m args below meth c cells slots Qs D aC ad 1 pc L [vI z] M) (hw : w_S_fault M Q) : rG p l e R s m args below meth c cells slots Qs D aC ad 1 0 [(0, vR 0)] [] M := by
  unfold w_S_fault at hw
  refine r_aload_n hC dX11_fault_0 rfl rfl ?_
  refine r_getR hC 10 rfl (by decide) kf11_76 rfl rfl dX11_fault_1 ?_
  refine r_getI hC 3 rfl (by decide) kf11_442 rfl rfl dX11_fault_4 (fun b2 b2' => ?_)
  replace hw := hw _ rfl b2 b2'
  exact hQ _ _ _ dX11_fault_7 hw
set_option maxRecDepth 100000 in
set_option maxHeartbeats 4000000 in
theorem d_S_fault {l : Launch} {D : va_G} {aC : Nat → ClassId} {ad : Nat → Nat} {M : Mem} {Q : Int → Prop} (hw : w_S_fault M Q) : Does l D aC ad yX11_fault cX11_fault 1 (some .int) 0 0 [vR 0] M (qI M Q) :=
  Does.of (by decide) (Nat.le_of_ble_eq_true rfl) (fun p e R s m args below meth c hC => r_subk (s_S_fault hC (fun pc L z d h => r_iret hC d ⟨rfl, ⟨z, rfl, h⟩⟩) hw) ⟨rfl, trivial⟩)
/-- SoupSand.rule -/
def w_S_rule (M : Mem) (x1 : Int) (Q : Int → Prop) : Prop :=
  w_S_beyond M x1 0 24 (fun a1 => (-2147483648 ≤ a1 ∧ a1 ≤ 2147483647) ∧ ((a1 = 0 → (0 ≤ x1 ∧ x1 < 25) ∧ (∀ a6 : Int, a6 = M 30 x1 → 0 ≤ a6 → a6 ≤ 999 → Q a6)) ∧ (¬ (a1 = 0) → Q (-1002))))
set_option maxRecDepth 100000 in
set_option maxHeartbeats 4000000 in
theorem s_S_rule {M : Mem} {x1 : Int} {Q : Int → Prop} (hC : rC p R s m args meth c cells slots D aC ad 2 cX11_rule RX11 1 22 (some .int)) (hQ : ∀ (pc : Nat) (L : List (Nat × RV)) (z : Int), decode cX11_rule pc = .ok (.ireturn, 1) → Q z → rG p l e R s m args below meth c cells slots Qs D aC ad 2 pc L [vI z] M) (hw : w_S_rule M x1 Q) : rG p l e R s m args below meth c cells slots Qs D aC ad 2 0 [(0, vR 0), (1, vI x1)] [] M := by
  unfold w_S_rule at hw
  refine r_iload_n hC dX11_rule_0 rfl rfl ?_
  refine r_iconst hC dX11_rule_1 ?_
  refine r_bipush hC dX11_rule_2 (by decide) ?_
  refine r_callS hC (d_S_beyond hw) kC11_beyond km11_86 kT11_beyond kN11 dd_11_beyond ⟨Nat.le_of_ble_eq_true rfl, Nat.le_of_ble_eq_true rfl⟩ rfl (Nat.le_of_ble_eq_true rfl) dX11_rule_4 (fun r M' hp => ?_)
  obtain ⟨rfl, a1, rfl, hw⟩ := hp
  try dsimp only at hw
  obtain ⟨o2, hw⟩ := hw
  obtain ⟨hwt, hwf⟩ := hw
  refine r_if_eq hC 16 dX11_rule_7 (by decide) o2.1 o2.2 (fun c4 => ?_) (fun c4 => ?_)
  · have hw := hwt c4
    refine r_aload_n hC dX11_rule_16 rfl rfl ?_
    refine r_getR hC 3 rfl (by decide) kf11_30 rfl rfl dX11_rule_17 ?_
    refine r_getR hC 0 rfl (by decide) kf11_445 rfl rfl dX11_rule_20 ?_
    refine r_iload_n hC dX11_rule_23 rfl rfl ?_
    obtain ⟨o5, hw⟩ := hw
    refine r_iald hC rfl o5.1 o5.2 (by decide) (by decide) dX11_rule_24 (fun b7 b7' => ?_)
    replace hw := hw _ rfl b7 b7'
    exact hQ _ _ _ dX11_rule_25 hw
  · have hw := hwf c4
    refine r_sipush hC dX11_rule_10 (by decide) ?_
    refine r_goto hC 25 dX11_rule_13 (by decide) ?_
    exact hQ _ _ _ dX11_rule_25 hw
set_option maxRecDepth 100000 in
set_option maxHeartbeats 4000000 in
theorem d_S_rule {l : Launch} {D : va_G} {aC : Nat → ClassId} {ad : Nat → Nat} {M : Mem} {x1 : Int} {Q : Int → Prop} (hw : w_S_rule M x1 Q) : Does l D aC ad yX11_rule cX11_rule 2 (some .int) 1 22 [vR 0, vI x1] M (qI M Q) :=
  Does.of (by decide) (Nat.le_of_ble_eq_true rfl) (fun p e R s m args below meth c hC => r_subk (s_S_rule hC (fun pc L z d h => r_iret hC d ⟨rfl, ⟨z, rfl, h⟩⟩) hw) ⟨rfl, rfl, trivial⟩)
end
