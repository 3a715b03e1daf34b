section
variable {p : Program} {l : Launch} {e : Env} {R : Room} {s : State} {m : MethodId} {args : Array Value} {below : List Frame} {meth : Method} {c : Code} {cells slots : Nat} {Qs : State → Prop} {D : va_G} {aC : Nat → ClassId} {ad : Nat → Nat}
/-- SoupSand$Words.keep -/
def w_Words_keep (M : Mem) (x1 : Int) (x2 : Int) (Q : Int → Prop) : Prop :=
  (0 ≤ (x1 * 729) + x2 ∧ (x1 * 729) + x2 < 4374) ∧ (∀ a2 : Int, a2 = M 37 ((x1 * 729) + x2) → 0 ≤ a2 → a2 ≤ 65535 → ∀ a4 : Int, a4 = M 5 6 → 0 ≤ a4 → a4 ≤ 65535 → (-2147483648 ≤ bAnd a2 (bXor a4 (-1)) ∧ bAnd a2 (bXor a4 (-1)) ≤ 2147483647) ∧ ((¬ (bAnd a2 (bXor a4 (-1)) = 0) → Q 0) ∧ (bAnd a2 (bXor a4 (-1)) = 0 → Q 1)))
set_option maxRecDepth 100000 in
set_option maxHeartbeats 4000000 in
theorem s_Words_keep {M : Mem} {x1 : Int} {x2 : Int} {Q : Int → Prop} (hC : rC p R s m args meth c cells slots D aC ad 3 cX9_keep RX9 0 0 (some .boolean)) (hQ : ∀ (pc : Nat) (L : List (Nat × RV)) (z : Int), decode cX9_keep pc = .ok (.ireturn, 1) → 0 ≤ z → z ≤ 1 → Q z → rG p l e R s m args below meth c cells slots Qs D aC ad 3 pc L [vI z] M) (hw : w_Words_keep M x1 x2 Q) : rG p l e R s m args below meth c cells slots Qs D aC ad 3 0 [(0, vR 5), (1, vI x1), (2, vI x2)] [] M := by
  unfold w_Words_keep at hw
  refine r_aload_n hC dX9_keep_0 rfl rfl ?_
  refine r_getR hC 8 rfl (by decide) kf9_30 rfl rfl dX9_keep_1 ?_
  refine r_iload_n hC dX9_keep_4 rfl rfl ?_
  refine r_sipush hC dX9_keep_5 (by decide) ?_
  refine r_imul hC dX9_keep_8 ?_
  refine r_iload_n hC dX9_keep_9 rfl rfl ?_
  refine r_iadd hC dX9_keep_10 ?_
  obtain ⟨o1, hw⟩ := hw
  refine r_iald hC rfl o1.1 o1.2 (by decide) (by decide) dX9_keep_11 (fun b3 b3' => ?_)
  replace hw := hw _ rfl b3 b3'
  refine r_aload_n hC dX9_keep_12 rfl rfl ?_
  refine r_getI hC 6 rfl (by decide) kf9_100 rfl rfl dX9_keep_13 (fun b5 b5' => ?_)
  replace hw := hw _ rfl b5 b5'
  refine r_iconst hC dX9_keep_16 ?_
  refine r_ixor hC dX9_keep_17 ?_
  refine r_iand hC dX9_keep_18 ?_
  obtain ⟨o6, hw⟩ := hw
  obtain ⟨hwt, hwf⟩ := hw
  refine r_if_ne hC 26 dX9_keep_19 (by decide) o6.1 o6.2 (fun c8 => ?_) (fun c8 => ?_)
  · have hw := hwt c8
    refine r_iconst hC dX9_keep_26 ?_
    exact hQ _ _ _ dX9_keep_27 (by decide) (by decide) hw
  · have hw := hwf c8
    refine r_iconst hC dX9_keep_22 ?_
    refine r_goto hC 27 dX9_keep_23 (by decide) ?_
    exact hQ _ _ _ dX9_keep_27 (by decide) (by decide) hw
set_option maxRecDepth 100000 in
set_option maxHeartbeats 4000000 in
theorem d_Words_keep {l : Launch} {D : va_G} {aC : Nat → ClassId} {ad : Nat → Nat} {M : Mem} {x1 : Int} {x2 : Int} {Q : Int → Prop} (hw : w_Words_keep M x1 x2 Q) : Does l D aC ad yX9_keep cX9_keep 3 (some .boolean) 0 0 [vR 5, vI x1, vI x2] M (qI M Q) :=
  Does.of (by decide) (Nat.le_of_ble_eq_true rfl) (fun p e R s m args below meth c hC => r_subk (s_Words_keep hC (fun pc L z d z1 z2 h => r_zret hC d z1 z2 ⟨rfl, ⟨z, rfl, h⟩⟩) hw) ⟨rfl, rfl, rfl, trivial⟩)
theorem dd_9_keep : yX9_keep.cls ≠ "java/lang/invoke/MethodHandle" ∧ yX9_keep.cls ≠ "java/lang/invoke/VarHandle" ∧ (parseMethodDescriptor yX9_keep.desc).map (fun d => d.parameters.length) = some 2 := by decide +kernel
/-- SoupSand.keptWith -/
def w_S_keptWith_j0 (Q : Int → Mem → Prop) (X14 : Int → Int → Mem → Prop) (x1 : Int) (x2 : Int) (x3 : Int) (x4 : Int) (x5 : Int) (M : Mem) : Prop :=
  w_Trial_advance M (fun M2 => X14 x4 (x5 + 1) M2)
set_option maxRecDepth 100000 in
set_option maxHeartbeats 4000000 in
theorem s_S_keptWith_j0 {Q : Int → Mem → Prop} {X14 : Int → Int → Mem → Prop} {x1 : Int} {x2 : Int} {x3 : Int} {x4 : Int} {x5 : Int} {M : Mem} (hC : rC p R s m args meth c cells slots D aC ad 6 cX11_keptWith RX11 2 42 (some .int)) (hQ : ∀ (pc : Nat) (L : List (Nat × RV)) (z : Int) (M : Mem), decode cX11_keptWith pc = .ok (.ireturn, 1) → Q z M → rG p l e R s m args below meth c cells slots Qs D aC ad 6 pc L [vI z] M) (hX14 : ∀ (x4 : Int) (x5 : Int) (M : Mem), X14 x4 x5 M → rG p l e R s m args below meth c cells slots Qs D aC ad 6 14 [(0, vR 0), (1, vI x1), (2, vI x2), (3, vI x3), (4, vI x4), (5, vI x5)] [] M) (hw : w_S_keptWith_j0 Q X14 x1 x2 x3 x4 x5 M) : rG p l e R s m args below meth c cells slots Qs D aC ad 6 62 [(0, vR 0), (1, vI x1), (2, vI x2), (3, vI x3), (4, vI x4), (5, vI x5)] [] M := by
  unfold w_S_keptWith_j0 at hw
  refine r_aload_n hC dX11_keptWith_62 rfl rfl ?_
  refine r_getR hC 0 rfl (by decide) kf11_10 rfl rfl dX11_keptWith_63 ?_
  refine r_callV hC (d_Trial_advance hw) rfl kC8_advance km11_219 kI8_advance kS8_advance kN8 dd_8_advance ⟨Nat.le_of_ble_eq_true rfl, Nat.le_of_ble_eq_true rfl⟩ rfl (Nat.le_of_ble_eq_true rfl) dX11_keptWith_66 (fun r M' hp => ?_)
  obtain ⟨rfl, hw⟩ := hp
  try dsimp only at hw
  refine r_iinc hC dX11_keptWith_69 rfl (by decide) ?_
  refine r_goto hC 14 dX11_keptWith_72 (by decide) ?_
  exact r_subk (hX14 _ _ _ hw) ⟨rfl, rfl, rfl, rfl, rfl, rfl, trivial⟩
def w_S_keptWith_B0 (Q : Int → Mem → Prop) (x1 : Int) (x2 : Int) (x3 : Int) (X14 : Int → Int → Mem → Prop) (x4 : Int) (x5 : Int) (M : Mem) : Prop :=
  (0 ≤ x1 ∧ x1 < 6) ∧ (∀ a2 : Int, a2 = M 36 x1 → 0 ≤ a2 → a2 ≤ 729 → (-2147483648 ≤ x5 ∧ x5 ≤ 2147483647) ∧ ((a2 ≤ x5 → Q x4 M) ∧ (¬ (a2 ≤ x5) → (0 ≤ x2 ∧ x2 < 6) ∧ (∀ a8 : Int, a8 = M 13 x2 → 0 ≤ a8 → a8 ≤ 3 → (-2147483648 ≤ x3 ∧ x3 ≤ 2147483647) ∧ ((¬ (a8 = x3) → w_S_keptWith_j0 Q X14 x1 x2 x3 x4 x5 M) ∧ (a8 = x3 → w_Trial_place M (fun a13 => w_Words_keep M x1 a13 (fun a14 => (-2147483648 ≤ a14 ∧ a14 ≤ 2147483647) ∧ ((a14 = 0 → w_S_keptWith_j0 Q X14 x1 x2 x3 x4 x5 M) ∧ (¬ (a14 = 0) → w_S_keptWith_j0 Q X14 x1 x2 x3 (x4 + 1) x5 M))))))))))
set_option maxRecDepth 100000 in
set_option maxHeartbeats 4000000 in
theorem s_S_keptWith_B0 {Q : Int → Mem → Prop} {x1 : Int} {x2 : Int} {x3 : Int} {X14 : Int → Int → Mem → Prop} {x4 : Int} {x5 : Int} {M : Mem} (hC : rC p R s m args meth c cells slots D aC ad 6 cX11_keptWith RX11 2 42 (some .int)) (hQ : ∀ (pc : Nat) (L : List (Nat × RV)) (z : Int) (M : Mem), decode cX11_keptWith pc = .ok (.ireturn, 1) → Q z M → rG p l e R s m args below meth c cells slots Qs D aC ad 6 pc L [vI z] M) (hX14 : ∀ (x4 : Int) (x5 : Int) (M : Mem), X14 x4 x5 M → rG p l e R s m args below meth c cells slots Qs D aC ad 6 14 [(0, vR 0), (1, vI x1), (2, vI x2), (3, vI x3), (4, vI x4), (5, vI x5)] [] M) (hw : w_S_keptWith_B0 Q x1 x2 x3 X14 x4 x5 M) : rG p l e R s m args below meth c cells slots Qs D aC ad 6 14 [(0, vR 0), (1, vI x1), (2, vI x2), (3, vI x3), (4, vI x4), (5, vI x5)] [] M := by
  unfold w_S_keptWith_B0 at hw
  refine r_iload hC dX11_keptWith_14 rfl ?_
  refine r_aload_n hC dX11_keptWith_16 rfl rfl ?_
  refine r_getR hC 4 rfl (by decide) kf11_34 rfl rfl dX11_keptWith_17 ?_
  refine r_getR hC 7 rfl (by decide) kf11_206 rfl rfl dX11_keptWith_20 ?_
  refine r_iload_n hC dX11_keptWith_23 rfl rfl ?_
  obtain ⟨o1, hw⟩ := hw
  refine r_iald hC rfl o1.1 o1.2 (by decide) (by decide) dX11_keptWith_24 (fun b3 b3' => ?_)
  replace hw := hw _ rfl b3 b3'
  obtain ⟨o4, hw⟩ := hw
  obtain ⟨hwt, hwf⟩ := hw
  refine r_icmp_ge hC 75 dX11_keptWith_25 (by decide) o4.1 o4.2 (by omega) (by omega) (fun c6 => ?_) (fun c6 => ?_)
  · have hw := hwt c6
    refine r_iload hC dX11_keptWith_75 rfl ?_
    exact hQ _ _ _ _ dX11_keptWith_77 hw
  · have hw := hwf c6
    refine r_aload_n hC dX11_keptWith_28 rfl rfl ?_
    refine r_getR hC 0 rfl (by decide) kf11_10 rfl rfl dX11_keptWith_29 ?_
    refine r_getR hC 3 rfl (by decide) kf11_209 rfl rfl dX11_keptWith_32 ?_
    refine r_iload_n hC dX11_keptWith_35 rfl rfl ?_
    obtain ⟨o7, hw⟩ := hw
    refine r_iald hC rfl o7.1 o7.2 (by decide) (by decide) dX11_keptWith_36 (fun b9 b9' => ?_)
    replace hw := hw _ rfl b9 b9'
    refine r_iload_n hC dX11_keptWith_37 rfl rfl ?_
    obtain ⟨o11, hw⟩ := hw
    obtain ⟨hwt, hwf⟩ := hw
    refine r_icmp_ne hC 62 dX11_keptWith_38 (by decide) (by omega) (by omega) o11.1 o11.2 (fun c12 => ?_) (fun c12 => ?_)
    · have hw := hwt c12
      exact r_subk (s_S_keptWith_j0 hC hQ hX14 hw) ⟨rfl, rfl, rfl, rfl, rfl, rfl, trivial⟩
    · have hw := hwf c12
      refine r_aload_n hC dX11_keptWith_41 rfl rfl ?_
      refine r_getR hC 4 rfl (by decide) kf11_34 rfl rfl dX11_keptWith_42 ?_
      refine r_iload_n hC dX11_keptWith_45 rfl rfl ?_
      refine r_aload_n hC dX11_keptWith_46 rfl rfl ?_
      refine r_getR hC 0 rfl (by decide) kf11_10 rfl rfl dX11_keptWith_47 ?_
      refine r_callV hC (d_Trial_place hw) rfl kC8_place km11_212 kI8_place kS8_place kN8 dd_8_place ⟨Nat.le_of_ble_eq_true rfl, Nat.le_of_ble_eq_true rfl⟩ rfl (Nat.le_of_ble_eq_true rfl) dX11_keptWith_50 (fun r M' hp => ?_)
      obtain ⟨rfl, a13, rfl, hw⟩ := hp
      try dsimp only at hw
      refine r_callV hC (d_Words_keep hw) rfl kC9_keep km11_216 kI9_keep kS9_keep kN9 dd_9_keep ⟨Nat.le_of_ble_eq_true rfl, Nat.le_of_ble_eq_true rfl⟩ rfl (Nat.le_of_ble_eq_true rfl) dX11_keptWith_53 (fun r M' hp => ?_)
      obtain ⟨rfl, a14, rfl, hw⟩ := hp
      try dsimp only at hw
      obtain ⟨o15, hw⟩ := hw
      obtain ⟨hwt, hwf⟩ := hw
      refine r_if_eq hC 62 dX11_keptWith_56 (by decide) o15.1 o15.2 (fun c17 => ?_) (fun c17 => ?_)
      · have hw := hwt c17
        exact r_subk (s_S_keptWith_j0 hC hQ hX14 hw) ⟨rfl, rfl, rfl, rfl, rfl, rfl, trivial⟩
      · have hw := hwf c17
        refine r_iinc hC dX11_keptWith_59 rfl (by decide) ?_
        exact r_subk (s_S_keptWith_j0 hC hQ hX14 hw) ⟨rfl, rfl, rfl, rfl, rfl, rfl, trivial⟩
def w_S_keptWith_L0 (Q : Int → Mem → Prop) (x1 : Int) (x2 : Int) (x3 : Int) (x4 : Int) (x5 : Int) (M : Mem) : Prop :=
  ∀ X : Int → Int → Mem → Prop, (∀ (x4 : Int) (x5 : Int) (M : Mem), w_S_keptWith_B0 Q x1 x2 x3 X x4 x5 M → X x4 x5 M) → X x4 x5 M
set_option maxRecDepth 100000 in
set_option maxHeartbeats 4000000 in
theorem s_S_keptWith_L0 {Q : Int → Mem → Prop} {x1 : Int} {x2 : Int} {x3 : Int} {x4 : Int} {x5 : Int} {M : Mem} (hC : rC p R s m args meth c cells slots D aC ad 6 cX11_keptWith RX11 2 42 (some .int)) (hQ : ∀ (pc : Nat) (L : List (Nat × RV)) (z : Int) (M : Mem), decode cX11_keptWith pc = .ok (.ireturn, 1) → Q z M → rG p l e R s m args below meth c cells slots Qs D aC ad 6 pc L [vI z] M) (hw : w_S_keptWith_L0 Q x1 x2 x3 x4 x5 M) : rG p l e R s m args below meth c cells slots Qs D aC ad 6 14 [(0, vR 0), (1, vI x1), (2, vI x2), (3, vI x3), (4, vI x4), (5, vI x5)] [] M := by
  unfold w_S_keptWith_L0 at hw
  exact hw (fun x4 x5 M => rG p l e R s m args below meth c cells slots Qs D aC ad 6 14 [(0, vR 0), (1, vI x1), (2, vI x2), (3, vI x3), (4, vI x4), (5, vI x5)] [] M) (fun x4 x5 M hb => s_S_keptWith_B0 hC hQ (fun _ _ _ h => h) hb)
def w_S_keptWith (M : Mem) (x1 : Int) (x2 : Int) (x3 : Int) (Q : Int → Mem → Prop) : Prop :=
  w_Trial_begin M x1 (fun M2 => w_S_keptWith_L0 Q x1 x2 x3 0 0 M2)
set_option maxRecDepth 100000 in
set_option maxHeartbeats 4000000 in
theorem s_S_keptWith {M : Mem} {x1 : Int} {x2 : Int} {x3 : Int} {Q : Int → Mem → Prop} (hC : rC p R s m args meth c cells slots D aC ad 6 cX11_keptWith RX11 2 42 (some .int)) (hQ : ∀ (pc : Nat) (L : List (Nat × RV)) (z : Int) (M : Mem), decode cX11_keptWith pc = .ok (.ireturn, 1) → Q z M → rG p l e R s m args below meth c cells slots Qs D aC ad 6 pc L [vI z] M) (hw : w_S_keptWith M x1 x2 x3 Q) : rG p l e R s m args below meth c cells slots Qs D aC ad 6 0 [(0, vR 0), (1, vI x1), (2, vI x2), (3, vI x3)] [] M := by
  unfold w_S_keptWith at hw
  refine r_iconst hC dX11_keptWith_0 ?_
  refine r_istore hC dX11_keptWith_1 (by decide) ?_
  refine r_aload_n hC dX11_keptWith_3 rfl rfl ?_
  refine r_getR hC 0 rfl (by decide) kf11_10 rfl rfl dX11_keptWith_4 ?_
  refine r_iload_n hC dX11_keptWith_7 rfl rfl ?_
  refine r_callV hC (d_Trial_begin hw) rfl kC8_begin km11_202 kI8_begin kS8_begin kN8 dd_8_begin ⟨Nat.le_of_ble_eq_true rfl, Nat.le_of_ble_eq_true rfl⟩ rfl (Nat.le_of_ble_eq_true rfl) dX11_keptWith_8 (fun r M' hp => ?_)
  obtain ⟨rfl, hw⟩ := hp
  try dsimp only at hw
  refine r_iconst hC dX11_keptWith_11 ?_
  refine r_istore hC dX11_keptWith_12 (by decide) ?_
  exact r_subk (s_S_keptWith_L0 hC hQ hw) ⟨rfl, rfl, rfl, rfl, rfl, rfl, trivial⟩
set_option maxRecDepth 100000 in
set_option maxHeartbeats 4000000 in
theorem d_S_keptWith {l : Launch} {D : va_G} {aC : Nat → ClassId} {ad : Nat → Nat} {M : Mem} {x1 : Int} {x2 : Int} {x3 : Int} {Q : Int → Mem → Prop} (hw : w_S_keptWith M x1 x2 x3 Q) : Does l D aC ad yX11_keptWith cX11_keptWith 6 (some .int) 2 42 [vR 0, vI x1, vI x2, vI x3] M (pI Q) :=
  Does.of (by decide) (Nat.le_of_ble_eq_true rfl) (fun p e R s m args below meth c hC => r_subk (s_S_keptWith hC (fun pc L z M d h => r_iret hC d ⟨z, rfl, h⟩) hw) ⟨rfl, rfl, rfl, rfl, trivial⟩)
/-- SoupSand$Words.countKept -/
def w_Words_countKept_B0 (Q : Int → Prop) (x1 : Int) (M : Mem) (X4 : Int → Int → Prop) (x2 : Int) (x3 : Int) : Prop :=
  (0 ≤ x1 ∧ x1 < 6) ∧ (∀ a2 : Int, a2 = M 36 x1 → 0 ≤ a2 → a2 ≤ 729 → (-2147483648 ≤ x3 ∧ x3 ≤ 2147483647) ∧ ((a2 ≤ x3 → Q x2) ∧ (¬ (a2 ≤ x3) → w_Words_keep M x1 x3 (fun a7 => (-2147483648 ≤ a7 ∧ a7 ≤ 2147483647) ∧ ((a7 = 0 → X4 x2 (x3 + 1)) ∧ (¬ (a7 = 0) → X4 (x2 + 1) (x3 + 1)))))))
set_option maxRecDepth 100000 in
set_option maxHeartbeats 4000000 in
theorem s_Words_countKept_B0 {Q : Int → Prop} {x1 : Int} {M : Mem} {X4 : Int → Int → Prop} {x2 : Int} {x3 : Int} (hC : rC p R s m args meth c cells slots D aC ad 4 cX9_countKept RX9 1 22 (some .int)) (hQ : ∀ (pc : Nat) (L : List (Nat × RV)) (z : Int), decode cX9_countKept pc = .ok (.ireturn, 1) → Q z → rG p l e R s m args below meth c cells slots Qs D aC ad 4 pc L [vI z] M) (hX4 : ∀ (x2 : Int) (x3 : Int), X4 x2 x3 → rG p l e R s m args below meth c cells slots Qs D aC ad 4 4 [(0, vR 5), (1, vI x1), (2, vI x2), (3, vI x3)] [] M) (hw : w_Words_countKept_B0 Q x1 M X4 x2 x3) : rG p l e R s m args below meth c cells slots Qs D aC ad 4 4 [(0, vR 5), (1, vI x1), (2, vI x2), (3, vI x3)] [] M := by
  unfold w_Words_countKept_B0 at hw
  refine r_iload_n hC dX9_countKept_4 rfl rfl ?_
  refine r_aload_n hC dX9_countKept_5 rfl rfl ?_
  refine r_getR hC 7 rfl (by decide) kf9_27 rfl rfl dX9_countKept_6 ?_
  refine r_iload_n hC dX9_countKept_9 rfl rfl ?_
  obtain ⟨o1, hw⟩ := hw
  refine r_iald hC rfl o1.1 o1.2 (by decide) (by decide) dX9_countKept_10 (fun b3 b3' => ?_)
  replace hw := hw _ rfl b3 b3'
  obtain ⟨o4, hw⟩ := hw
  obtain ⟨hwt, hwf⟩ := hw
  refine r_icmp_ge hC 32 dX9_countKept_11 (by decide) o4.1 o4.2 (by omega) (by omega) (fun c6 => ?_) (fun c6 => ?_)
  · have hw := hwt c6
    refine r_iload_n hC dX9_countKept_32 rfl rfl ?_
    exact hQ _ _ _ dX9_countKept_33 hw
  · have hw := hwf c6
    refine r_aload_n hC dX9_countKept_14 rfl rfl ?_
    refine r_iload_n hC dX9_countKept_15 rfl rfl ?_
    refine r_iload_n hC dX9_countKept_16 rfl rfl ?_
    refine r_callV hC (d_Words_keep hw) rfl kC9_keep km9_103 kI9_keep kS9_keep kN9 dd_9_keep ⟨Nat.le_of_ble_eq_true rfl, Nat.le_of_ble_eq_true rfl⟩ rfl (Nat.le_of_ble_eq_true rfl) dX9_countKept_17 (fun r M' hp => ?_)
    obtain ⟨rfl, a7, rfl, hw⟩ := hp
    try dsimp only at hw
    obtain ⟨o8, hw⟩ := hw
    obtain ⟨hwt, hwf⟩ := hw
    refine r_if_eq hC 26 dX9_countKept_20 (by decide) o8.1 o8.2 (fun c10 => ?_) (fun c10 => ?_)
    · have hw := hwt c10
      refine r_iinc hC dX9_countKept_26 rfl (by decide) ?_
      refine r_goto hC 4 dX9_countKept_29 (by decide) ?_
      exact r_subk (hX4 _ _ hw) ⟨rfl, rfl, rfl, rfl, trivial⟩
    · have hw := hwf c10
      refine r_iinc hC dX9_countKept_23 rfl (by decide) ?_
      refine r_iinc hC dX9_countKept_26 rfl (by decide) ?_
      refine r_goto hC 4 dX9_countKept_29 (by decide) ?_
      exact r_subk (hX4 _ _ hw) ⟨rfl, rfl, rfl, rfl, trivial⟩
def w_Words_countKept_L0 (Q : Int → Prop) (x1 : Int) (M : Mem) (x2 : Int) (x3 : Int) : Prop :=
  ∀ X : Int → Int → Prop, (∀ (x2 : Int) (x3 : Int), w_Words_countKept_B0 Q x1 M X x2 x3 → X x2 x3) → X x2 x3
set_option maxRecDepth 100000 in
set_option maxHeartbeats 4000000 in
theorem s_Words_countKept_L0 {Q : Int → Prop} {x1 : Int} {M : Mem} {x2 : Int} {x3 : Int} (hC : rC p R s m args meth c cells slots D aC ad 4 cX9_countKept RX9 1 22 (some .int)) (hQ : ∀ (pc : Nat) (L : List (Nat × RV)) (z : Int), decode cX9_countKept pc = .ok (.ireturn, 1) → Q z → rG p l e R s m args below meth c cells slots Qs D aC ad 4 pc L [vI z] M) (hw : w_Words_countKept_L0 Q x1 M x2 x3) : rG p l e R s m args below meth c cells slots Qs D aC ad 4 4 [(0, vR 5), (1, vI x1), (2, vI x2), (3, vI x3)] [] M := by
  unfold w_Words_countKept_L0 at hw
  exact hw (fun x2 x3 => rG p l e R s m args below meth c cells slots Qs D aC ad 4 4 [(0, vR 5), (1, vI x1), (2, vI x2), (3, vI x3)] [] M) (fun x2 x3 hb => s_Words_countKept_B0 hC hQ (fun _ _ h => h) hb)
def w_Words_countKept (M : Mem) (x1 : Int) (Q : Int → Prop) : Prop :=
  w_Words_countKept_L0 Q x1 M 0 0
set_option maxRecDepth 100000 in
set_option maxHeartbeats 4000000 in
theorem s_Words_countKept {M : Mem} {x1 : Int} {Q : Int → Prop} (hC : rC p R s m args meth c cells slots D aC ad 4 cX9_countKept RX9 1 22 (some .int)) (hQ : ∀ (pc : Nat) (L : List (Nat × RV)) (z : Int), decode cX9_countKept pc = .ok (.ireturn, 1) → Q z → rG p l e R s m args below meth c cells slots Qs D aC ad 4 pc L [vI z] M) (hw : w_Words_countKept M x1 Q) : rG p l e R s m args below meth c cells slots Qs D aC ad 4 0 [(0, vR 5), (1, vI x1)] [] M := by
  unfold w_Words_countKept at hw
  refine r_iconst hC dX9_countKept_0 ?_
  refine r_istore_n hC dX9_countKept_1 rfl (by decide) ?_
  refine r_iconst hC dX9_countKept_2 ?_
  refine r_istore_n hC dX9_countKept_3 rfl (by decide) ?_
  exact r_subk (s_Words_countKept_L0 hC hQ hw) ⟨rfl, rfl, rfl, rfl, trivial⟩
set_option maxRecDepth 100000 in
set_option maxHeartbeats 4000000 in
theorem d_Words_countKept {l : Launch} {D : va_G} {aC : Nat → ClassId} {ad : Nat → Nat} {M : Mem} {x1 : Int} {Q : Int → Prop} (hw : w_Words_countKept M x1 Q) : Does l D aC ad yX9_countKept cX9_countKept 4 (some .int) 1 22 [vR 5, vI x1] M (qI M Q) :=
  Does.of (by decide) (Nat.le_of_ble_eq_true rfl) (fun p e R s m args below meth c hC => r_subk (s_Words_countKept hC (fun pc L z d h => r_iret hC d ⟨rfl, ⟨z, rfl, h⟩⟩) hw) ⟨rfl, rfl, trivial⟩)
/-- SoupSand$Words.firstKept -/
def w_Words_firstKept_B0 (Q : Int → Prop) (x1 : Int) (M : Mem) (X2 : Int → Prop) (x2 : Int) : Prop :=
  (0 ≤ x1 ∧ x1 < 6) ∧ (∀ a2 : Int, a2 = M 36 x1 → 0 ≤ a2 → a2 ≤ 729 → (-2147483648 ≤ x2 ∧ x2 ≤ 2147483647) ∧ ((a2 ≤ x2 → Q (-1)) ∧ (¬ (a2 ≤ x2) → w_Words_keep M x1 x2 (fun a7 => (-2147483648 ≤ a7 ∧ a7 ≤ 2147483647) ∧ ((a7 = 0 → X2 (x2 + 1)) ∧ (¬ (a7 = 0) → Q x2))))))
set_option maxRecDepth 100000 in
set_option maxHeartbeats 4000000 in
theorem s_Words_firstKept_B0 {Q : Int → Prop} {x1 : Int} {M : Mem} {X2 : Int → Prop} {x2 : Int} (hC : rC p R s m args meth c cells slots D aC ad 3 cX9_firstKept RX9 1 22 (some .int)) (hQ : ∀ (pc : Nat) (L : List (Nat × RV)) (z : Int), decode cX9_firstKept pc = .ok (.ireturn, 1) → Q z → rG p l e R s m args below meth c cells slots Qs D aC ad 3 pc L [vI z] M) (hX2 : ∀ (x2 : Int), X2 x2 → rG p l e R s m args below meth c cells slots Qs D aC ad 3 2 [(0, vR 5), (1, vI x1), (2, vI x2)] [] M) (hw : w_Words_firstKept_B0 Q x1 M X2 x2) : rG p l e R s m args below meth c cells slots Qs D aC ad 3 2 [(0, vR 5), (1, vI x1), (2, vI x2)] [] M := by
  unfold w_Words_firstKept_B0 at hw
  refine r_iload_n hC dX9_firstKept_2 rfl rfl ?_
  refine r_aload_n hC dX9_firstKept_3 rfl rfl ?_
  refine r_getR hC 7 rfl (by decide) kf9_27 rfl rfl dX9_firstKept_4 ?_
  refine r_iload_n hC dX9_firstKept_7 rfl rfl ?_
  obtain ⟨o1, hw⟩ := hw
  refine r_iald hC rfl o1.1 o1.2 (by decide) (by decide) dX9_firstKept_8 (fun b3 b3' => ?_)
  replace hw := hw _ rfl b3 b3'
  obtain ⟨o4, hw⟩ := hw
  obtain ⟨hwt, hwf⟩ := hw
  refine r_icmp_ge hC 29 dX9_firstKept_9 (by decide) o4.1 o4.2 (by omega) (by omega) (fun c6 => ?_) (fun c6 => ?_)
  · have hw := hwt c6
    refine r_iconst hC dX9_firstKept_29 ?_
    exact hQ _ _ _ dX9_firstKept_30 hw
  · have hw := hwf c6
    refine r_aload_n hC dX9_firstKept_12 rfl rfl ?_
    refine r_iload_n hC dX9_firstKept_13 rfl rfl ?_
    refine r_iload_n hC dX9_firstKept_14 rfl rfl ?_
    refine r_callV hC (d_Words_keep hw) rfl kC9_keep km9_103 kI9_keep kS9_keep kN9 dd_9_keep ⟨Nat.le_of_ble_eq_true rfl, Nat.le_of_ble_eq_true rfl⟩ rfl (Nat.le_of_ble_eq_true rfl) dX9_firstKept_15 (fun r M' hp => ?_)
    obtain ⟨rfl, a7, rfl, hw⟩ := hp
    try dsimp only at hw
    obtain ⟨o8, hw⟩ := hw
    obtain ⟨hwt, hwf⟩ := hw
    refine r_if_eq hC 23 dX9_firstKept_18 (by decide) o8.1 o8.2 (fun c10 => ?_) (fun c10 => ?_)
    · have hw := hwt c10
      refine r_iinc hC dX9_firstKept_23 rfl (by decide) ?_
      refine r_goto hC 2 dX9_firstKept_26 (by decide) ?_
      exact r_subk (hX2 _ hw) ⟨rfl, rfl, rfl, trivial⟩
    · have hw := hwf c10
      refine r_iload_n hC dX9_firstKept_21 rfl rfl ?_
      exact hQ _ _ _ dX9_firstKept_22 hw
def w_Words_firstKept_L0 (Q : Int → Prop) (x1 : Int) (M : Mem) (x2 : Int) : Prop :=
  ∀ X : Int → Prop, (∀ (x2 : Int), w_Words_firstKept_B0 Q x1 M X x2 → X x2) → X x2
set_option maxRecDepth 100000 in
set_option maxHeartbeats 4000000 in
theorem s_Words_firstKept_L0 {Q : Int → Prop} {x1 : Int} {M : Mem} {x2 : Int} (hC : rC p R s m args meth c cells slots D aC ad 3 cX9_firstKept RX9 1 22 (some .int)) (hQ : ∀ (pc : Nat) (L : List (Nat × RV)) (z : Int), decode cX9_firstKept pc = .ok (.ireturn, 1) → Q z → rG p l e R s m args below meth c cells slots Qs D aC ad 3 pc L [vI z] M) (hw : w_Words_firstKept_L0 Q x1 M x2) : rG p l e R s m args below meth c cells slots Qs D aC ad 3 2 [(0, vR 5), (1, vI x1), (2, vI x2)] [] M := by
  unfold w_Words_firstKept_L0 at hw
  exact hw (fun x2 => rG p l e R s m args below meth c cells slots Qs D aC ad 3 2 [(0, vR 5), (1, vI x1), (2, vI x2)] [] M) (fun x2 hb => s_Words_firstKept_B0 hC hQ (fun _ h => h) hb)
def w_Words_firstKept (M : Mem) (x1 : Int) (Q : Int → Prop) : Prop :=
  w_Words_firstKept_L0 Q x1 M 0
set_option maxRecDepth 100000 in
set_option maxHeartbeats 4000000 in
theorem s_Words_firstKept {M : Mem} {x1 : Int} {Q : Int → Prop} (hC : rC p R s m args meth c cells slots D aC ad 3 cX9_firstKept RX9 1 22 (some .int)) (hQ : ∀ (pc : Nat) (L : List (Nat × RV)) (z : Int), decode cX9_firstKept pc = .ok (.ireturn, 1) → Q z → rG p l e R s m args below meth c cells slots Qs D aC ad 3 pc L [vI z] M) (hw : w_Words_firstKept M x1 Q) : rG p l e R s m args below meth c cells slots Qs D aC ad 3 0 [(0, vR 5), (1, vI x1)] [] M := by
  unfold w_Words_firstKept at hw
  refine r_iconst hC dX9_firstKept_0 ?_
  refine r_istore_n hC dX9_firstKept_1 rfl (by decide) ?_
  exact r_subk (s_Words_firstKept_L0 hC hQ hw) ⟨rfl, rfl, rfl, trivial⟩
set_option maxRecDepth 100000 in
set_option maxHeartbeats 4000000 in
theorem d_Words_firstKept {l : Launch} {D : va_G} {aC : Nat → ClassId} {ad : Nat → Nat} {M : Mem} {x1 : Int} {Q : Int → Prop} (hw : w_Words_firstKept M x1 Q) : Does l D aC ad yX9_firstKept cX9_firstKept 3 (some .int) 1 22 [vR 5, vI x1] M (qI M Q) :=
  Does.of (by decide) (Nat.le_of_ble_eq_true rfl) (fun p e R s m args below meth c hC => r_subk (s_Words_firstKept hC (fun pc L z d h => r_iret hC d ⟨rfl, ⟨z, rfl, h⟩⟩) hw) ⟨rfl, rfl, trivial⟩)
theorem dd_9_countKept : yX9_countKept.cls ≠ "java/lang/invoke/MethodHandle" ∧ yX9_countKept.cls ≠ "java/lang/invoke/VarHandle" ∧ (parseMethodDescriptor yX9_countKept.desc).map (fun d => d.parameters.length) = some 1 := by decide +kernel
theorem dd_9_firstKept : yX9_firstKept.cls ≠ "java/lang/invoke/MethodHandle" ∧ yX9_firstKept.cls ≠ "java/lang/invoke/VarHandle" ∧ (parseMethodDescriptor yX9_firstKept.desc).map (fun d => d.parameters.length) = some 1 := by decide +kernel
theorem dd_9_look : yX9_look.cls ≠ "java/lang/invoke/MethodHandle" ∧ yX9_look.cls ≠ "java/lang/invoke/VarHandle" ∧ (parseMethodDescriptor yX9_look.desc).map (fun d => d.parameters.length) = some 2 := by decide +kernel
theorem dd_11_keptWith : yX11_keptWith.cls ≠ "java/lang/invoke/MethodHandle" ∧ yX11_keptWith.cls ≠ "java/lang/invoke/VarHandle" ∧ (parseMethodDescriptor yX11_keptWith.desc).map (fun d => d.parameters.length) = some 3 := by decide +kernel
/-- SoupSand.choices -/
def w_S_choices_j0 (Q : Int → Mem → Prop) (x1 : Int) (x2 : Int) (x3 : Int) (x4 : Int) (M : Mem) : Prop :=
  w_S_beyond M x2 0 3 (fun a1 => (-2147483648 ≤ a1 ∧ a1 ≤ 2147483647) ∧ ((a1 = 0 → (-2147483648 ≤ x2 ∧ x2 ≤ 2147483647) ∧ ((¬ (x2 = 0) → w_Words_look M x1 (fun M9 => (-2147483648 ≤ x2 ∧ x2 ≤ 2147483647) ∧ ((¬ (x2 = 2) → (-2147483648 ≤ x2 ∧ x2 ≤ 2147483647) ∧ ((¬ (x2 = 1) → w_S_keptWith M9 x1 x3 x4 (fun a16 M17 => Q a16 M17)) ∧ (x2 = 1 → w_Words_countKept M9 x1 (fun a18 => Q a18 M9)))) ∧ (x2 = 2 → w_Words_firstKept M9 x1 (fun a19 => Q a19 M9))))) ∧ (x2 = 0 → w_Ground_choicesOf M x1 (fun a20 => Q a20 M)))) ∧ (¬ (a1 = 0) → Q (-1002) M)))
set_option maxRecDepth 100000 in
set_option maxHeartbeats 4000000 in
theorem s_S_choices_j0 {Q : Int → Mem → Prop} {x1 : Int} {x2 : Int} {x3 : Int} {x4 : Int} {M : Mem} (hC : rC p R s m args meth c cells slots D aC ad 5 cX11_choices RX11 5 122 (some .int)) (hQ : ∀ (pc : Nat) (L : List (Nat × RV)) (z : Int) (M : Mem), decode cX11_choices pc = .ok (.ireturn, 1) → Q z M → rG p l e R s m args below meth c cells slots Qs D aC ad 5 pc L [vI z] M) (hw : w_S_choices_j0 Q x1 x2 x3 x4 M) : rG p l e R s m args below meth c cells slots Qs D aC ad 5 61 [(0, vR 0), (1, vI x1), (2, vI x2), (3, vI x3), (4, vI x4)] [] M := by
  unfold w_S_choices_j0 at hw
  refine r_iload_n hC dX11_choices_61 rfl rfl ?_
  refine r_iconst hC dX11_choices_62 ?_
  refine r_iconst hC dX11_choices_63 ?_
  refine r_callS hC (d_S_beyond hw) kC11_beyond km11_86 kT11_beyond kN11 dd_11_beyond ⟨Nat.le_of_ble_eq_true rfl, Nat.le_of_ble_eq_true rfl⟩ rfl (Nat.le_of_ble_eq_true rfl) dX11_choices_64 (fun r M' hp => ?_)
  obtain ⟨rfl, a1, rfl, hw⟩ := hp
  try dsimp only at hw
  obtain ⟨o2, hw⟩ := hw
  obtain ⟨hwt, hwf⟩ := hw
  refine r_if_eq hC 74 dX11_choices_67 (by decide) o2.1 o2.2 (fun c4 => ?_) (fun c4 => ?_)
  · have hw := hwt c4
    refine r_iload_n hC dX11_choices_74 rfl rfl ?_
    obtain ⟨o5, hw⟩ := hw
    obtain ⟨hwt, hwf⟩ := hw
    refine r_if_ne hC 87 dX11_choices_75 (by decide) o5.1 o5.2 (fun c7 => ?_) (fun c7 => ?_)
    · have hw := hwt c7
      refine r_aload_n hC dX11_choices_87 rfl rfl ?_
      refine r_getR hC 4 rfl (by decide) kf11_34 rfl rfl dX11_choices_88 ?_
      refine r_aload_n hC dX11_choices_91 rfl rfl ?_
      refine r_getR hC 0 rfl (by decide) kf11_10 rfl rfl dX11_choices_92 ?_
      refine r_iload_n hC dX11_choices_95 rfl rfl ?_
      refine r_callV hC (d_Words_look hw) rfl kC9_look km11_188 kI9_look kS9_look kN9 dd_9_look ⟨Nat.le_of_ble_eq_true rfl, Nat.le_of_ble_eq_true rfl⟩ rfl (Nat.le_of_ble_eq_true rfl) dX11_choices_96 (fun r M' hp => ?_)
      obtain ⟨rfl, hw⟩ := hp
      try dsimp only at hw
      refine r_iload_n hC dX11_choices_99 rfl rfl ?_
      refine r_iconst hC dX11_choices_100 ?_
      obtain ⟨o10, hw⟩ := hw
      obtain ⟨hwt, hwf⟩ := hw
      refine r_icmp_ne hC 113 dX11_choices_101 (by decide) o10.1 o10.2 (by decide) (by decide) (fun c12 => ?_) (fun c12 => ?_)
      · have hw := hwt c12
        refine r_iload_n hC dX11_choices_113 rfl rfl ?_
        refine r_iconst hC dX11_choices_114 ?_
        obtain ⟨o13, hw⟩ := hw
        obtain ⟨hwt, hwf⟩ := hw
        refine r_icmp_ne hC 129 dX11_choices_115 (by decide) o13.1 o13.2 (by decide) (by decide) (fun c15 => ?_) (fun c15 => ?_)
        · have hw := hwt c15
          refine r_aload_n hC dX11_choices_129 rfl rfl ?_
          refine r_iload_n hC dX11_choices_130 rfl rfl ?_
          refine r_iload_n hC dX11_choices_131 rfl rfl ?_
          refine r_iload hC dX11_choices_132 rfl ?_
          refine r_callV hC (d_S_keptWith hw) rfl kC11_keptWith km11_198 kI11_keptWith kS11_keptWith kN11 dd_11_keptWith ⟨Nat.le_of_ble_eq_true rfl, Nat.le_of_ble_eq_true rfl⟩ rfl (Nat.le_of_ble_eq_true rfl) dX11_choices_134 (fun r M' hp => ?_)
          obtain ⟨a16, rfl, hw⟩ := hp
          try dsimp only at hw
          exact hQ _ _ _ _ dX11_choices_137 hw
        · have hw := hwf c15
          refine r_aload_n hC dX11_choices_118 rfl rfl ?_
          refine r_getR hC 4 rfl (by decide) kf11_34 rfl rfl dX11_choices_119 ?_
          refine r_iload_n hC dX11_choices_122 rfl rfl ?_
          refine r_callV hC (d_Words_countKept hw) rfl kC9_countKept km11_195 kI9_countKept kS9_countKept kN9 dd_9_countKept ⟨Nat.le_of_ble_eq_true rfl, Nat.le_of_ble_eq_true rfl⟩ rfl (Nat.le_of_ble_eq_true rfl) dX11_choices_123 (fun r M' hp => ?_)
          obtain ⟨rfl, a18, rfl, hw⟩ := hp
          try dsimp only at hw
          refine r_goto hC 137 dX11_choices_126 (by decide) ?_
          exact hQ _ _ _ _ dX11_choices_137 hw
      · have hw := hwf c12
        refine r_aload_n hC dX11_choices_104 rfl rfl ?_
        refine r_getR hC 4 rfl (by decide) kf11_34 rfl rfl dX11_choices_105 ?_
        refine r_iload_n hC dX11_choices_108 rfl rfl ?_
        refine r_callV hC (d_Words_firstKept hw) rfl kC9_firstKept km11_192 kI9_firstKept kS9_firstKept kN9 dd_9_firstKept ⟨Nat.le_of_ble_eq_true rfl, Nat.le_of_ble_eq_true rfl⟩ rfl (Nat.le_of_ble_eq_true rfl) dX11_choices_109 (fun r M' hp => ?_)
        obtain ⟨rfl, a19, rfl, hw⟩ := hp
        try dsimp only at hw
        exact hQ _ _ _ _ dX11_choices_112 hw
    · have hw := hwf c7
      refine r_aload_n hC dX11_choices_78 rfl rfl ?_
      refine r_getR hC 1 rfl (by decide) kf11_20 rfl rfl dX11_choices_79 ?_
      refine r_iload_n hC dX11_choices_82 rfl rfl ?_
      refine r_callV hC (d_Ground_choicesOf hw) rfl kC0_choicesOf km11_185 kI0_choicesOf kS0_choicesOf kN0 dd_0_choicesOf ⟨Nat.le_of_ble_eq_true rfl, Nat.le_of_ble_eq_true rfl⟩ rfl (Nat.le_of_ble_eq_true rfl) dX11_choices_83 (fun r M' hp => ?_)
      obtain ⟨rfl, a20, rfl, hw⟩ := hp
      try dsimp only at hw
      exact hQ _ _ _ _ dX11_choices_86 hw
  · have hw := hwf c4
    refine r_sipush hC dX11_choices_70 (by decide) ?_
    exact hQ _ _ _ _ dX11_choices_73 hw
def w_S_choices (M : Mem) (x1 : Int) (x2 : Int) (x3 : Int) (x4 : Int) (Q : Int → Mem → Prop) : Prop :=
  w_Ground_hasColumn M x1 (fun a1 => (-2147483648 ≤ a1 ∧ a1 ≤ 2147483647) ∧ ((¬ (a1 = 0) → (-2147483648 ≤ x2 ∧ x2 ≤ 2147483647) ∧ ((¬ (x2 = 3) → w_S_choices_j0 Q x1 x2 x3 x4 M) ∧ (x2 = 3 → w_Ground_hasLayer M x1 x3 (fun a8 => (-2147483648 ≤ a8 ∧ a8 ≤ 2147483647) ∧ ((a8 = 0 → Q (-1001) M) ∧ (¬ (a8 = 0) → (0 ≤ (x1 * 6) + x3 ∧ (x1 * 6) + x3 < 36) ∧ (∀ a13 : Int, a13 = M 24 ((x1 * 6) + x3) → 0 ≤ a13 → a13 ≤ 3 → w_S_beyond M x4 0 (a13 - 1) (fun a15 => (-2147483648 ≤ a15 ∧ a15 ≤ 2147483647) ∧ ((a15 = 0 → w_S_choices_j0 Q x1 x2 x3 x4 M) ∧ (¬ (a15 = 0) → Q (-1001) M)))))))))) ∧ (a1 = 0 → Q (-1001) M)))
set_option maxRecDepth 100000 in
set_option maxHeartbeats 4000000 in
theorem s_S_choices {M : Mem} {x1 : Int} {x2 : Int} {x3 : Int} {x4 : Int} {Q : Int → Mem → Prop} (hC : rC p R s m args meth c cells slots D aC ad 5 cX11_choices RX11 5 122 (some .int)) (hQ : ∀ (pc : Nat) (L : List (Nat × RV)) (z : Int) (M : Mem), decode cX11_choices pc = .ok (.ireturn, 1) → Q z M → rG p l e R s m args below meth c cells slots Qs D aC ad 5 pc L [vI z] M) (hw : w_S_choices M x1 x2 x3 x4 Q) : rG p l e R s m args below meth c cells slots Qs D aC ad 5 0 [(0, vR 0), (1, vI x1), (2, vI x2), (3, vI x3), (4, vI x4)] [] M := by
  unfold w_S_choices at hw
  refine r_aload_n hC dX11_choices_0 rfl rfl ?_
  refine r_getR hC 1 rfl (by decide) kf11_20 rfl rfl dX11_choices_1 ?_
  refine r_iload_n hC dX11_choices_4 rfl rfl ?_
  refine r_callV hC (d_Ground_hasColumn hw) rfl kC0_hasColumn km11_80 kI0_hasColumn kS0_hasColumn kN0 dd_0_hasColumn ⟨Nat.le_of_ble_eq_true rfl, Nat.le_of_ble_eq_true rfl⟩ rfl (Nat.le_of_ble_eq_true rfl) dX11_choices_5 (fun r M' hp => ?_)
  obtain ⟨rfl, a1, rfl, hw⟩ := hp
  try dsimp only at hw
  obtain ⟨o2, hw⟩ := hw
  obtain ⟨hwt, hwf⟩ := hw
  refine r_if_ne hC 15 dX11_choices_8 (by decide) o2.1 o2.2 (fun c4 => ?_) (fun c4 => ?_)
  · have hw := hwt c4
    refine r_iload_n hC dX11_choices_15 rfl rfl ?_
    refine r_iconst hC dX11_choices_16 ?_
    obtain ⟨o5, hw⟩ := hw
    obtain ⟨hwt, hwf⟩ := hw
    refine r_icmp_ne hC 61 dX11_choices_17 (by decide) o5.1 o5.2 (by decide) (by decide) (fun c7 => ?_) (fun c7 => ?_)
    · have hw := hwt c7
      exact r_subk (s_S_choices_j0 hC hQ hw) ⟨rfl, rfl, rfl, rfl, rfl, trivial⟩
    · have hw := hwf c7
      refine r_aload_n hC dX11_choices_20 rfl rfl ?_
      refine r_getR hC 1 rfl (by decide) kf11_20 rfl rfl dX11_choices_21 ?_
      refine r_iload_n hC dX11_choices_24 rfl rfl ?_
      refine r_iload_n hC dX11_choices_25 rfl rfl ?_
      refine r_callV hC (d_Ground_hasLayer hw) rfl kC0_hasLayer km11_107 kI0_hasLayer kS0_hasLayer kN0 dd_0_hasLayer ⟨Nat.le_of_ble_eq_true rfl, Nat.le_of_ble_eq_true rfl⟩ rfl (Nat.le_of_ble_eq_true rfl) dX11_choices_26 (fun r M' hp => ?_)
      obtain ⟨rfl, a8, rfl, hw⟩ := hp
      try dsimp only at hw
      obtain ⟨o9, hw⟩ := hw
      obtain ⟨hwt, hwf⟩ := hw
      refine r_if_eq hC 57 dX11_choices_29 (by decide) o9.1 o9.2 (fun c11 => ?_) (fun c11 => ?_)
      · have hw := hwt c11
        refine r_sipush hC dX11_choices_57 (by decide) ?_
        exact hQ _ _ _ _ dX11_choices_60 hw
      · have hw := hwf c11
        refine r_iload hC dX11_choices_32 rfl ?_
        refine r_iconst hC dX11_choices_34 ?_
        refine r_aload_n hC dX11_choices_35 rfl rfl ?_
        refine r_getR hC 1 rfl (by decide) kf11_20 rfl rfl dX11_choices_36 ?_
        refine r_getR hC 5 rfl (by decide) kf11_114 rfl rfl dX11_choices_39 ?_
        refine r_iload_n hC dX11_choices_42 rfl rfl ?_
        refine r_bipush hC dX11_choices_43 (by decide) ?_
        refine r_imul hC dX11_choices_45 ?_
        refine r_iload_n hC dX11_choices_46 rfl rfl ?_
        refine r_iadd hC dX11_choices_47 ?_
        obtain ⟨o12, hw⟩ := hw
        refine r_iald hC rfl o12.1 o12.2 (by decide) (by decide) dX11_choices_48 (fun b14 b14' => ?_)
        replace hw := hw _ rfl b14 b14'
        refine r_iconst hC dX11_choices_49 ?_
        refine r_isub hC dX11_choices_50 ?_
        refine r_callS hC (d_S_beyond hw) kC11_beyond km11_86 kT11_beyond kN11 dd_11_beyond ⟨Nat.le_of_ble_eq_true rfl, Nat.le_of_ble_eq_true rfl⟩ rfl (Nat.le_of_ble_eq_true rfl) dX11_choices_51 (fun r M' hp => ?_)
        obtain ⟨rfl, a15, rfl, hw⟩ := hp
        try dsimp only at hw
        obtain ⟨o16, hw⟩ := hw
        obtain ⟨hwt, hwf⟩ := hw
        refine r_if_eq hC 61 dX11_choices_54 (by decide) o16.1 o16.2 (fun c18 => ?_) (fun c18 => ?_)
        · have hw := hwt c18
          exact r_subk (s_S_choices_j0 hC hQ hw) ⟨rfl, rfl, rfl, rfl, rfl, trivial⟩
        · have hw := hwf c18
          refine r_sipush hC dX11_choices_57 (by decide) ?_
          exact hQ _ _ _ _ dX11_choices_60 hw
  · have hw := hwf c4
    refine r_sipush hC dX11_choices_11 (by decide) ?_
    exact hQ _ _ _ _ dX11_choices_14 hw
set_option maxRecDepth 100000 in
set_option maxHeartbeats 4000000 in
theorem d_S_choices {l : Launch} {D : va_G} {aC : Nat → ClassId} {ad : Nat → Nat} {M : Mem} {x1 : Int} {x2 : Int} {x3 : Int} {x4 : Int} {Q : Int → Mem → Prop} (hw : w_S_choices M x1 x2 x3 x4 Q) : Does l D aC ad yX11_choices cX11_choices 5 (some .int) 5 122 [vR 0, vI x1, vI x2, vI x3, vI x4] M (pI Q) :=
  Does.of (by decide) (Nat.le_of_ble_eq_true rfl) (fun p e R s m args below meth c hC => r_subk (s_S_choices hC (fun pc L z M d h => r_iret hC d ⟨z, rfl, h⟩) hw) ⟨rfl, rfl, rfl, rfl, rfl, trivial⟩)
/-- SoupSand$Survey.begin -/
def w_Survey_begin (M : Mem) (x1 : Int) (Q : Mem → Prop) : Prop :=
  (0 ≤ x1 ∧ x1 ≤ 999) ∧ (∀ M2 : Mem, M2 = mset M 9 7 x1 → ∀ M4 : Mem, M4 = mset M2 9 0 0 → ∀ M6 : Mem, M6 = mset M4 9 1 0 → ∀ M8 : Mem, M8 = mset M6 9 2 0 → ∀ M10 : Mem, M10 = mset M8 9 3 0 → Q M10)
set_option maxRecDepth 100000 in
set_option maxHeartbeats 4000000 in
theorem s_Survey_begin {M : Mem} {x1 : Int} {Q : Mem → Prop} (hC : rC p R s m args meth c cells slots D aC ad 2 cX6_begin RX6 0 0 none) (hQ : ∀ (pc : Nat) (L : List (Nat × RV)) (M : Mem), decode cX6_begin pc = .ok (.return_, 1) → Q M → rG p l e R s m args below meth c cells slots Qs D aC ad 2 pc L [] M) (hw : w_Survey_begin M x1 Q) : rG p l e R s m args below meth c cells slots Qs D aC ad 2 0 [(0, vR 9), (1, vI x1)] [] M := by
  unfold w_Survey_begin at hw
  refine r_aload_n hC dX6_begin_0 rfl rfl ?_
  refine r_iload_n hC dX6_begin_1 rfl rfl ?_
  obtain ⟨o1, hw⟩ := hw
  refine r_putI hC 7 rfl (by decide) kf6_7 rfl rfl o1.1 o1.2 dX6_begin_2 ?_
  replace hw := hw _ rfl
  refine r_aload_n hC dX6_begin_5 rfl rfl ?_
  refine r_iconst hC dX6_begin_6 ?_
  refine r_putI hC 0 rfl (by decide) kf6_13 rfl rfl (by decide) (by decide) dX6_begin_7 ?_
  replace hw := hw _ rfl
  refine r_aload_n hC dX6_begin_10 rfl rfl ?_
  refine r_iconst hC dX6_begin_11 ?_
  refine r_putI hC 1 rfl (by decide) kf6_16 rfl rfl (by decide) (by decide) dX6_begin_12 ?_
  replace hw := hw _ rfl
  refine r_aload_n hC dX6_begin_15 rfl rfl ?_
  refine r_lconst hC 0 dX6_begin_16 (by decide) ?_
  refine r_putJ hC 2 rfl (by decide) kf6_19 rfl rfl (by decide) (by decide) dX6_begin_17 ?_
  replace hw := hw _ rfl
  refine r_aload_n hC dX6_begin_20 rfl rfl ?_
  refine r_lconst hC 0 dX6_begin_21 (by decide) ?_
  refine r_putJ hC 3 rfl (by decide) kf6_23 rfl rfl (by decide) (by decide) dX6_begin_22 ?_
  replace hw := hw _ rfl
  exact hQ _ _ _ dX6_begin_25 hw
set_option maxRecDepth 100000 in
set_option maxHeartbeats 4000000 in
theorem d_Survey_begin {l : Launch} {D : va_G} {aC : Nat → ClassId} {ad : Nat → Nat} {M : Mem} {x1 : Int} {Q : Mem → Prop} (hw : w_Survey_begin M x1 Q) : Does l D aC ad yX6_begin cX6_begin 2 none 0 0 [vR 9, vI x1] M (pV Q) :=
  Does.of (by decide) (Nat.le_of_ble_eq_true rfl) (fun p e R s m args below meth c hC => r_subk (s_Survey_begin hC (fun pc L M d h => r_vret hC d ⟨rfl, h⟩) hw) ⟨rfl, rfl, trivial⟩)
/-- SoupSand$Trial.weightNow -/
def w_Trial_weightNow_B0 (Q : Int → Prop) (M : Mem) (X4 : Int → Int → Prop) (x1 : Int) (x2 : Int) : Prop :=
  ∀ a1 : Int, a1 = M 1 10 → 0 ≤ a1 → a1 ≤ 6 → (-2147483648 ≤ x2 ∧ x2 ≤ 2147483647) ∧ ((a1 ≤ x2 → Q x1) ∧ (¬ (a1 ≤ x2) → ∀ a6 : Int, a6 = M 1 9 → 0 ≤ a6 → a6 ≤ 5 → (0 ≤ x2 ∧ x2 < 6) ∧ (∀ a9 : Int, a9 = M 13 x2 → 0 ≤ a9 → a9 ≤ 3 → (0 ≤ (((a6 * 6) + x2) * 3) + a9 ∧ (((a6 * 6) + x2) * 3) + a9 < 108) ∧ (∀ a12 : Int, a12 = M 26 ((((a6 * 6) + x2) * 3) + a9) → 0 ≤ a12 → a12 ≤ 9 → X4 (x1 * a12) (x2 + 1)))))
set_option maxRecDepth 100000 in
set_option maxHeartbeats 4000000 in
theorem s_Trial_weightNow_B0 {Q : Int → Prop} {M : Mem} {X4 : Int → Int → Prop} {x1 : Int} {x2 : Int} (hC : rC p R s m args meth c cells slots D aC ad 3 cX8_weightNow RX8 0 0 (some .int)) (hQ : ∀ (pc : Nat) (L : List (Nat × RV)) (z : Int), decode cX8_weightNow pc = .ok (.ireturn, 1) → Q z → rG p l e R s m args below meth c cells slots Qs D aC ad 3 pc L [vI z] M) (hX4 : ∀ (x1 : Int) (x2 : Int), X4 x1 x2 → rG p l e R s m args below meth c cells slots Qs D aC ad 3 4 [(0, vR 1), (1, vI x1), (2, vI x2)] [] M) (hw : w_Trial_weightNow_B0 Q M X4 x1 x2) : rG p l e R s m args below meth c cells slots Qs D aC ad 3 4 [(0, vR 1), (1, vI x1), (2, vI x2)] [] M := by
  unfold w_Trial_weightNow_B0 at hw
  refine r_iload_n hC dX8_weightNow_4 rfl rfl ?_
  refine r_aload_n hC dX8_weightNow_5 rfl rfl ?_
  refine r_getI hC 10 rfl (by decide) kf8_58 rfl rfl dX8_weightNow_6 (fun b2 b2' => ?_)
  replace hw := hw _ rfl b2 b2'
  obtain ⟨o3, hw⟩ := hw
  obtain ⟨hwt, hwf⟩ := hw
  refine r_icmp_ge hC 47 dX8_weightNow_9 (by decide) o3.1 o3.2 (by omega) (by omega) (fun c5 => ?_) (fun c5 => ?_)
  · have hw := hwt c5
    refine r_iload_n hC dX8_weightNow_47 rfl rfl ?_
    exact hQ _ _ _ dX8_weightNow_48 hw
  · have hw := hwf c5
    refine r_iload_n hC dX8_weightNow_12 rfl rfl ?_
    refine r_aload_n hC dX8_weightNow_13 rfl rfl ?_
    refine r_getR hC 0 rfl (by decide) kf8_12 rfl rfl dX8_weightNow_14 ?_
    refine r_getR hC 7 rfl (by decide) kf8_124 rfl rfl dX8_weightNow_17 ?_
    refine r_aload_n hC dX8_weightNow_20 rfl rfl ?_
    refine r_getI hC 9 rfl (by decide) kf8_51 rfl rfl dX8_weightNow_21 (fun b7 b7' => ?_)
    replace hw := hw _ rfl b7 b7'
    refine r_bipush hC dX8_weightNow_24 (by decide) ?_
    refine r_imul hC dX8_weightNow_26 ?_
    refine r_iload_n hC dX8_weightNow_27 rfl rfl ?_
    refine r_iadd hC dX8_weightNow_28 ?_
    refine r_iconst hC dX8_weightNow_29 ?_
    refine r_imul hC dX8_weightNow_30 ?_
    refine r_aload_n hC dX8_weightNow_31 rfl rfl ?_
    refine r_getR hC 3 rfl (by decide) kf8_32 rfl rfl dX8_weightNow_32 ?_
    refine r_iload_n hC dX8_weightNow_35 rfl rfl ?_
    obtain ⟨o8, hw⟩ := hw
    refine r_iald hC rfl o8.1 o8.2 (by decide) (by decide) dX8_weightNow_36 (fun b10 b10' => ?_)
    replace hw := hw _ rfl b10 b10'
    refine r_iadd hC dX8_weightNow_37 ?_
    obtain ⟨o11, hw⟩ := hw
    refine r_iald hC rfl o11.1 o11.2 (by decide) (by decide) dX8_weightNow_38 (fun b13 b13' => ?_)
    replace hw := hw _ rfl b13 b13'
    refine r_imul hC dX8_weightNow_39 ?_
    refine r_istore_n hC dX8_weightNow_40 rfl (by decide) ?_
    refine r_iinc hC dX8_weightNow_41 rfl (by decide) ?_
    refine r_goto hC 4 dX8_weightNow_44 (by decide) ?_
    exact r_subk (hX4 _ _ hw) ⟨rfl, rfl, rfl, trivial⟩
def w_Trial_weightNow_L0 (Q : Int → Prop) (M : Mem) (x1 : Int) (x2 : Int) : Prop :=
  ∀ X : Int → Int → Prop, (∀ (x1 : Int) (x2 : Int), w_Trial_weightNow_B0 Q M X x1 x2 → X x1 x2) → X x1 x2
set_option maxRecDepth 100000 in
set_option maxHeartbeats 4000000 in
theorem s_Trial_weightNow_L0 {Q : Int → Prop} {M : Mem} {x1 : Int} {x2 : Int} (hC : rC p R s m args meth c cells slots D aC ad 3 cX8_weightNow RX8 0 0 (some .int)) (hQ : ∀ (pc : Nat) (L : List (Nat × RV)) (z : Int), decode cX8_weightNow pc = .ok (.ireturn, 1) → Q z → rG p l e R s m args below meth c cells slots Qs D aC ad 3 pc L [vI z] M) (hw : w_Trial_weightNow_L0 Q M x1 x2) : rG p l e R s m args below meth c cells slots Qs D aC ad 3 4 [(0, vR 1), (1, vI x1), (2, vI x2)] [] M := by
  unfold w_Trial_weightNow_L0 at hw
  exact hw (fun x1 x2 => rG p l e R s m args below meth c cells slots Qs D aC ad 3 4 [(0, vR 1), (1, vI x1), (2, vI x2)] [] M) (fun x1 x2 hb => s_Trial_weightNow_B0 hC hQ (fun _ _ h => h) hb)
def w_Trial_weightNow (M : Mem) (Q : Int → Prop) : Prop :=
  w_Trial_weightNow_L0 Q M 1 0
set_option maxRecDepth 100000 in
set_option maxHeartbeats 4000000 in
theorem s_Trial_weightNow {M : Mem} {Q : Int → Prop} (hC : rC p R s m args meth c cells slots D aC ad 3 cX8_weightNow RX8 0 0 (some .int)) (hQ : ∀ (pc : Nat) (L : List (Nat × RV)) (z : Int), decode cX8_weightNow pc = .ok (.ireturn, 1) → Q z → rG p l e R s m args below meth c cells slots Qs D aC ad 3 pc L [vI z] M) (hw : w_Trial_weightNow M Q) : rG p l e R s m args below meth c cells slots Qs D aC ad 3 0 [(0, vR 1)] [] M := by
  unfold w_Trial_weightNow at hw
  refine r_iconst hC dX8_weightNow_0 ?_
  refine r_istore_n hC dX8_weightNow_1 rfl (by decide) ?_
  refine r_iconst hC dX8_weightNow_2 ?_
  refine r_istore_n hC dX8_weightNow_3 rfl (by decide) ?_
  exact r_subk (s_Trial_weightNow_L0 hC hQ hw) ⟨rfl, rfl, rfl, trivial⟩
set_option maxRecDepth 100000 in
set_option maxHeartbeats 4000000 in
theorem d_Trial_weightNow {l : Launch} {D : va_G} {aC : Nat → ClassId} {ad : Nat → Nat} {M : Mem} {Q : Int → Prop} (hw : w_Trial_weightNow M Q) : Does l D aC ad yX8_weightNow cX8_weightNow 3 (some .int) 0 0 [vR 1] M (qI M Q) :=
  Does.of (by decide) (Nat.le_of_ble_eq_true rfl) (fun p e R s m args below meth c hC => r_subk (s_Trial_weightNow hC (fun pc L z d h => r_iret hC d ⟨rfl, ⟨z, rfl, h⟩⟩) hw) ⟨rfl, trivial⟩)
/-- SoupSand$Survey.add -/
def w_Survey_add_j2 (Q : Mem → Prop) (x2 : Int) (s1 : Int) (M : Mem) : Prop :=
  (-2147483648 ≤ s1 ∧ s1 ≤ 2147483647) ∧ (∀ M2 : Mem, M2 = mset M 9 6 s1 → ∀ a3 : Int, a3 = M2 9 1 → 0 ≤ a3 → a3 ≤ 729 → (0 ≤ a3 + 1 ∧ a3 + 1 ≤ 729) ∧ (∀ M6 : Mem, M6 = mset M2 9 1 (a3 + 1) → ∀ a7 : Int, a7 = M6 9 3 → -1125899906842624 ≤ a7 → a7 ≤ 1125899906842624 → (-2147483648 ≤ x2 ∧ x2 ≤ 2147483647) ∧ ((-1125899906842624 ≤ a7 + x2 ∧ a7 + x2 ≤ 1125899906842624) ∧ (∀ M11 : Mem, M11 = mset M6 9 3 (a7 + x2) → Q M11))))
set_option maxRecDepth 100000 in
set_option maxHeartbeats 4000000 in
theorem s_Survey_add_j2 {Q : Mem → Prop} {x2 : Int} {s1 : Int} {M : Mem} (hC : rC p R s m args meth c cells slots D aC ad 3 cX6_add RX6 1 21 none) (hQ : ∀ (pc : Nat) (L : List (Nat × RV)) (M : Mem), decode cX6_add pc = .ok (.return_, 1) → Q M → rG p l e R s m args below meth c cells slots Qs D aC ad 3 pc L [] M) (hw : w_Survey_add_j2 Q x2 s1 M) : rG p l e R s m args below meth c cells slots Qs D aC ad 3 96 [(0, vR 9), (2, vI x2)] [vI s1, vR 9] M := by
  unfold w_Survey_add_j2 at hw
  obtain ⟨o1, hw⟩ := hw
  refine r_putI hC 6 rfl (by decide) kf6_41 rfl rfl o1.1 o1.2 dX6_add_96 ?_
  replace hw := hw _ rfl
  refine r_aload_n hC dX6_add_99 rfl rfl ?_
  refine r_dup hC dX6_add_100 rfl ?_
  refine r_getI hC 1 rfl (by decide) kf6_16 rfl rfl dX6_add_101 (fun b4 b4' => ?_)
  replace hw := hw _ rfl b4 b4'
  refine r_iconst hC dX6_add_104 ?_
  refine r_iadd hC dX6_add_105 ?_
  obtain ⟨o5, hw⟩ := hw
  refine r_putI hC 1 rfl (by decide) kf6_16 rfl rfl o5.1 o5.2 dX6_add_106 ?_
  replace hw := hw _ rfl
  refine r_aload_n hC dX6_add_109 rfl rfl ?_
  refine r_dup hC dX6_add_110 rfl ?_
  refine r_getJ hC 3 rfl (by decide) kf6_23 rfl rfl dX6_add_111 (fun b8 b8' => ?_)
  replace hw := hw _ rfl b8 b8'
  refine r_iload_n hC dX6_add_114 rfl rfl ?_
  obtain ⟨o9, hw⟩ := hw
  refine r_i2l hC dX6_add_115 o9.1 o9.2 ?_
  refine r_ladd hC dX6_add_116 ?_
  obtain ⟨o10, hw⟩ := hw
  refine r_putJ hC 3 rfl (by decide) kf6_23 rfl rfl o10.1 o10.2 dX6_add_117 ?_
  replace hw := hw _ rfl
  exact hQ _ _ _ dX6_add_120 hw
def w_Survey_add_j1 (Q : Mem → Prop) (x1 : Int) (x2 : Int) (s1 : Int) (M : Mem) : Prop :=
  (-2147483648 ≤ s1 ∧ s1 ≤ 2147483647) ∧ (∀ M2 : Mem, M2 = mset M 9 5 s1 → ∀ a3 : Int, a3 = M2 9 0 → 0 ≤ a3 → a3 ≤ 729 → (0 ≤ a3 + 1 ∧ a3 + 1 ≤ 729) ∧ (∀ M6 : Mem, M6 = mset M2 9 0 (a3 + 1) → ∀ a7 : Int, a7 = M6 9 2 → -1125899906842624 ≤ a7 → a7 ≤ 1125899906842624 → (-2147483648 ≤ x2 ∧ x2 ≤ 2147483647) ∧ ((-1125899906842624 ≤ a7 + x2 ∧ a7 + x2 ≤ 1125899906842624) ∧ (∀ M11 : Mem, M11 = mset M6 9 2 (a7 + x2) → ∀ a12 : Int, a12 = M11 9 7 → 0 ≤ a12 → a12 ≤ 999 → (-2147483648 ≤ x1 ∧ x1 ≤ 2147483647) ∧ ((a12 ≤ x1 → ∀ a17 : Int, a17 = M11 9 1 → 0 ≤ a17 → a17 ≤ 729 → (¬ (a17 = 0) → ∀ a22 : Int, a22 = M11 9 6 → -2147483648 ≤ a22 → a22 ≤ 2147483647 → (-2147483648 ≤ x1 ∧ x1 ≤ 2147483647) ∧ (w_Survey_add_j2 Q x2 (min a22 x1) M11)) ∧ (a17 = 0 → w_Survey_add_j2 Q x2 x1 M11)) ∧ (¬ (a12 ≤ x1) → Q M11))))))
set_option maxRecDepth 100000 in
set_option maxHeartbeats 4000000 in
theorem s_Survey_add_j1 {Q : Mem → Prop} {x1 : Int} {x2 : Int} {s1 : Int} {M : Mem} (hC : rC p R s m args meth c cells slots D aC ad 3 cX6_add RX6 1 21 none) (hQ : ∀ (pc : Nat) (L : List (Nat × RV)) (M : Mem), decode cX6_add pc = .ok (.return_, 1) → Q M → rG p l e R s m args below meth c cells slots Qs D aC ad 3 pc L [] M) (hw : w_Survey_add_j1 Q x1 x2 s1 M) : rG p l e R s m args below meth c cells slots Qs D aC ad 3 43 [(0, vR 9), (1, vI x1), (2, vI x2)] [vI s1, vR 9] M := by
  unfold w_Survey_add_j1 at hw
  obtain ⟨o1, hw⟩ := hw
  refine r_putI hC 5 rfl (by decide) kf6_35 rfl rfl o1.1 o1.2 dX6_add_43 ?_
  replace hw := hw _ rfl
  refine r_aload_n hC dX6_add_46 rfl rfl ?_
  refine r_dup hC dX6_add_47 rfl ?_
  refine r_getI hC 0 rfl (by decide) kf6_13 rfl rfl dX6_add_48 (fun b4 b4' => ?_)
  replace hw := hw _ rfl b4 b4'
  refine r_iconst hC dX6_add_51 ?_
  refine r_iadd hC dX6_add_52 ?_
  obtain ⟨o5, hw⟩ := hw
  refine r_putI hC 0 rfl (by decide) kf6_13 rfl rfl o5.1 o5.2 dX6_add_53 ?_
  replace hw := hw _ rfl
  refine r_aload_n hC dX6_add_56 rfl rfl ?_
  refine r_dup hC dX6_add_57 rfl ?_
  refine r_getJ hC 2 rfl (by decide) kf6_19 rfl rfl dX6_add_58 (fun b8 b8' => ?_)
  replace hw := hw _ rfl b8 b8'
  refine r_iload_n hC dX6_add_61 rfl rfl ?_
  obtain ⟨o9, hw⟩ := hw
  refine r_i2l hC dX6_add_62 o9.1 o9.2 ?_
  refine r_ladd hC dX6_add_63 ?_
  obtain ⟨o10, hw⟩ := hw
  refine r_putJ hC 2 rfl (by decide) kf6_19 rfl rfl o10.1 o10.2 dX6_add_64 ?_
  replace hw := hw _ rfl
  refine r_iload_n hC dX6_add_67 rfl rfl ?_
  refine r_aload_n hC dX6_add_68 rfl rfl ?_
  refine r_getI hC 7 rfl (by decide) kf6_7 rfl rfl dX6_add_69 (fun b13 b13' => ?_)
  replace hw := hw _ rfl b13 b13'
  obtain ⟨o14, hw⟩ := hw
  obtain ⟨hwt, hwf⟩ := hw
  refine r_icmp_ge hC 76 dX6_add_72 (by decide) o14.1 o14.2 (by omega) (by omega) (fun c16 => ?_) (fun c16 => ?_)
  · have hw := hwt c16
    refine r_aload_n hC dX6_add_76 rfl rfl ?_
    refine r_aload_n hC dX6_add_77 rfl rfl ?_
    refine r_getI hC 1 rfl (by decide) kf6_16 rfl rfl dX6_add_78 (fun b18 b18' => ?_)
    replace hw := hw _ rfl b18 b18'
    obtain ⟨hwt, hwf⟩ := hw
    refine r_if_ne hC 88 dX6_add_81 (by decide) (by omega) (by omega) (fun c21 => ?_) (fun c21 => ?_)
    · have hw := hwt c21
      refine r_aload_n hC dX6_add_88 rfl rfl ?_
      refine r_getI hC 6 rfl (by decide) kf6_41 rfl rfl dX6_add_89 (fun b23 b23' => ?_)
      replace hw := hw _ rfl b23 b23'
      refine r_iload_n hC dX6_add_92 rfl rfl ?_
      obtain ⟨o25, hw⟩ := hw
      refine r_min hC km6_29 (by decide) (Nat.le_of_ble_eq_true rfl) dX6_add_93 (by omega) (by omega) o25.1 o25.2 ?_
      exact r_subk (s_Survey_add_j2 hC hQ hw) ⟨rfl, rfl, trivial⟩
    · have hw := hwf c21
      refine r_iload_n hC dX6_add_84 rfl rfl ?_
      refine r_goto hC 96 dX6_add_85 (by decide) ?_
      exact r_subk (s_Survey_add_j2 hC hQ hw) ⟨rfl, rfl, trivial⟩
  · have hw := hwf c16
    exact hQ _ _ _ dX6_add_75 hw
def w_Survey_add_j0 (Q : Mem → Prop) (x1 : Int) (x2 : Int) (s1 : Int) (M : Mem) : Prop :=
  (-2147483648 ≤ s1 ∧ s1 ≤ 2147483647) ∧ (∀ M2 : Mem, M2 = mset M 9 4 s1 → ∀ a3 : Int, a3 = M2 9 0 → 0 ≤ a3 → a3 ≤ 729 → (¬ (a3 = 0) → ∀ a8 : Int, a8 = M2 9 5 → -2147483648 ≤ a8 → a8 ≤ 2147483647 → (-2147483648 ≤ x1 ∧ x1 ≤ 2147483647) ∧ (w_Survey_add_j1 Q x1 x2 (max a8 x1) M2)) ∧ (a3 = 0 → w_Survey_add_j1 Q x1 x2 x1 M2))
set_option maxRecDepth 100000 in
set_option maxHeartbeats 4000000 in
theorem s_Survey_add_j0 {Q : Mem → Prop} {x1 : Int} {x2 : Int} {s1 : Int} {M : Mem} (hC : rC p R s m args meth c cells slots D aC ad 3 cX6_add RX6 1 21 none) (hQ : ∀ (pc : Nat) (L : List (Nat × RV)) (M : Mem), decode cX6_add pc = .ok (.return_, 1) → Q M → rG p l e R s m args below meth c cells slots Qs D aC ad 3 pc L [] M) (hw : w_Survey_add_j0 Q x1 x2 s1 M) : rG p l e R s m args below meth c cells slots Qs D aC ad 3 20 [(0, vR 9), (1, vI x1), (2, vI x2)] [vI s1, vR 9] M := by
  unfold w_Survey_add_j0 at hw
  obtain ⟨o1, hw⟩ := hw
  refine r_putI hC 4 rfl (by decide) kf6_26 rfl rfl o1.1 o1.2 dX6_add_20 ?_
  replace hw := hw _ rfl
  refine r_aload_n hC dX6_add_23 rfl rfl ?_
  refine r_aload_n hC dX6_add_24 rfl rfl ?_
  refine r_getI hC 0 rfl (by decide) kf6_13 rfl rfl dX6_add_25 (fun b4 b4' => ?_)
  replace hw := hw _ rfl b4 b4'
  obtain ⟨hwt, hwf⟩ := hw
  refine r_if_ne hC 35 dX6_add_28 (by decide) (by omega) (by omega) (fun c7 => ?_) (fun c7 => ?_)
  · have hw := hwt c7
    refine r_aload_n hC dX6_add_35 rfl rfl ?_
    refine r_getI hC 5 rfl (by decide) kf6_35 rfl rfl dX6_add_36 (fun b9 b9' => ?_)
    replace hw := hw _ rfl b9 b9'
    refine r_iload_n hC dX6_add_39 rfl rfl ?_
    obtain ⟨o11, hw⟩ := hw
    refine r_max hC km6_38 (by decide) (Nat.le_of_ble_eq_true rfl) dX6_add_40 (by omega) (by omega) o11.1 o11.2 ?_
    exact r_subk (s_Survey_add_j1 hC hQ hw) ⟨rfl, rfl, rfl, trivial⟩
  · have hw := hwf c7
    refine r_iload_n hC dX6_add_31 rfl rfl ?_
    refine r_goto hC 43 dX6_add_32 (by decide) ?_
    exact r_subk (s_Survey_add_j1 hC hQ hw) ⟨rfl, rfl, rfl, trivial⟩
def w_Survey_add (M : Mem) (x1 : Int) (x2 : Int) (Q : Mem → Prop) : Prop :=
  ∀ a1 : Int, a1 = M 9 0 → 0 ≤ a1 → a1 ≤ 729 → (¬ (a1 = 0) → ∀ a6 : Int, a6 = M 9 4 → -2147483648 ≤ a6 → a6 ≤ 2147483647 → (-2147483648 ≤ x1 ∧ x1 ≤ 2147483647) ∧ (w_Survey_add_j0 Q x1 x2 (min a6 x1) M)) ∧ (a1 = 0 → w_Survey_add_j0 Q x1 x2 x1 M)
set_option maxRecDepth 100000 in
set_option maxHeartbeats 4000000 in
theorem s_Survey_add {M : Mem} {x1 : Int} {x2 : Int} {Q : Mem → Prop} (hC : rC p R s m args meth c cells slots D aC ad 3 cX6_add RX6 1 21 none) (hQ : ∀ (pc : Nat) (L : List (Nat × RV)) (M : Mem), decode cX6_add pc = .ok (.return_, 1) → Q M → rG p l e R s m args below meth c cells slots Qs D aC ad 3 pc L [] M) (hw : w_Survey_add M x1 x2 Q) : rG p l e R s m args below meth c cells slots Qs D aC ad 3 0 [(0, vR 9), (1, vI x1), (2, vI x2)] [] M := by
  unfold w_Survey_add at hw
  refine r_aload_n hC dX6_add_0 rfl rfl ?_
  refine r_aload_n hC dX6_add_1 rfl rfl ?_
  refine r_getI hC 0 rfl (by decide) kf6_13 rfl rfl dX6_add_2 (fun b2 b2' => ?_)
  replace hw := hw _ rfl b2 b2'
  obtain ⟨hwt, hwf⟩ := hw
  refine r_if_ne hC 12 dX6_add_5 (by decide) (by omega) (by omega) (fun c5 => ?_) (fun c5 => ?_)
  · have hw := hwt c5
    refine r_aload_n hC dX6_add_12 rfl rfl ?_
    refine r_getI hC 4 rfl (by decide) kf6_26 rfl rfl dX6_add_13 (fun b7 b7' => ?_)
    replace hw := hw _ rfl b7 b7'
    refine r_iload_n hC dX6_add_16 rfl rfl ?_
    obtain ⟨o9, hw⟩ := hw
    refine r_min hC km6_29 (by decide) (Nat.le_of_ble_eq_true rfl) dX6_add_17 (by omega) (by omega) o9.1 o9.2 ?_
    exact r_subk (s_Survey_add_j0 hC hQ hw) ⟨rfl, rfl, rfl, trivial⟩
  · have hw := hwf c5
    refine r_iload_n hC dX6_add_8 rfl rfl ?_
    refine r_goto hC 20 dX6_add_9 (by decide) ?_
    exact r_subk (s_Survey_add_j0 hC hQ hw) ⟨rfl, rfl, rfl, trivial⟩
set_option maxRecDepth 100000 in
set_option maxHeartbeats 4000000 in
theorem d_Survey_add {l : Launch} {D : va_G} {aC : Nat → ClassId} {ad : Nat → Nat} {M : Mem} {x1 : Int} {x2 : Int} {Q : Mem → Prop} (hw : w_Survey_add M x1 x2 Q) : Does l D aC ad yX6_add cX6_add 3 none 1 21 [vR 9, vI x1, vI x2] M (pV Q) :=
  Does.of (by decide) (Nat.le_of_ble_eq_true rfl) (fun p e R s m args below meth c hC => r_subk (s_Survey_add hC (fun pc L M d h => r_vret hC d ⟨rfl, h⟩) hw) ⟨rfl, rfl, rfl, trivial⟩)
theorem dd_6_add : yX6_add.cls ≠ "java/lang/invoke/MethodHandle" ∧ yX6_add.cls ≠ "java/lang/invoke/VarHandle" ∧ (parseMethodDescriptor yX6_add.desc).map (fun d => d.parameters.length) = some 2 := by decide +kernel
theorem dd_6_begin : yX6_begin.cls ≠ "java/lang/invoke/MethodHandle" ∧ yX6_begin.cls ≠ "java/lang/invoke/VarHandle" ∧ (parseMethodDescriptor yX6_begin.desc).map (fun d => d.parameters.length) = some 1 := by decide +kernel
theorem dd_8_weightNow : yX8_weightNow.cls ≠ "java/lang/invoke/MethodHandle" ∧ yX8_weightNow.cls ≠ "java/lang/invoke/VarHandle" ∧ (parseMethodDescriptor yX8_weightNow.desc).map (fun d => d.parameters.length) = some 0 := by decide +kernel
/-- SoupSand.surveyLayer -/
def w_S_surveyLayer_j0 (Q : Mem → Prop) (X41 : Int → Mem → Prop) (x1 : Int) (x3 : Int) (x4 : Int) (M : Mem) : Prop :=
  w_Trial_advance M (fun M2 => X41 (x4 + 1) M2)
set_option maxRecDepth 100000 in
set_option maxHeartbeats 4000000 in
theorem s_S_surveyLayer_j0 {Q : Mem → Prop} {X41 : Int → Mem → Prop} {x1 : Int} {x3 : Int} {x4 : Int} {M : Mem} (hC : rC p R s m args meth c cells slots D aC ad 5 cX11_surveyLayer RX11 5 122 none) (hQ : ∀ (pc : Nat) (L : List (Nat × RV)) (M : Mem), decode cX11_surveyLayer pc = .ok (.return_, 1) → Q M → rG p l e R s m args below meth c cells slots Qs D aC ad 5 pc L [] M) (hX41 : ∀ (x4 : Int) (M : Mem), X41 x4 M → rG p l e R s m args below meth c cells slots Qs D aC ad 5 41 [(0, vR 0), (1, vI x1), (3, vI x3), (4, vI x4)] [] M) (hw : w_S_surveyLayer_j0 Q X41 x1 x3 x4 M) : rG p l e R s m args below meth c cells slots Qs D aC ad 5 103 [(0, vR 0), (1, vI x1), (3, vI x3), (4, vI x4)] [] M := by
  unfold w_S_surveyLayer_j0 at hw
  refine r_aload_n hC dX11_surveyLayer_103 rfl rfl ?_
  refine r_getR hC 0 rfl (by decide) kf11_10 rfl rfl dX11_surveyLayer_104 ?_
  refine r_callV hC (d_Trial_advance hw) rfl kC8_advance km11_219 kI8_advance kS8_advance kN8 dd_8_advance ⟨Nat.le_of_ble_eq_true rfl, Nat.le_of_ble_eq_true rfl⟩ rfl (Nat.le_of_ble_eq_true rfl) dX11_surveyLayer_107 (fun r M' hp => ?_)
  obtain ⟨rfl, hw⟩ := hp
  try dsimp only at hw
  refine r_iinc hC dX11_surveyLayer_110 rfl (by decide) ?_
  refine r_goto hC 41 dX11_surveyLayer_113 (by decide) ?_
  exact r_subk (hX41 _ _ hw) ⟨rfl, rfl, rfl, rfl, trivial⟩
def w_S_surveyLayer_B0 (Q : Mem → Prop) (x1 : Int) (x3 : Int) (X41 : Int → Mem → Prop) (x4 : Int) (M : Mem) : Prop :=
  (0 ≤ x1 ∧ x1 < 6) ∧ (∀ a2 : Int, a2 = M 36 x1 → 0 ≤ a2 → a2 ≤ 729 → (-2147483648 ≤ x4 ∧ x4 ≤ 2147483647) ∧ ((a2 ≤ x4 → Q M) ∧ (¬ (a2 ≤ x4) → w_Trial_place M (fun a7 => w_Words_keep M x1 a7 (fun a8 => (-2147483648 ≤ a8 ∧ a8 ≤ 2147483647) ∧ ((a8 = 0 → w_S_surveyLayer_j0 Q X41 x1 x3 x4 M) ∧ (¬ (a8 = 0) → w_Trial_play M (fun M13 => (0 ≤ x3 ∧ x3 < 6) ∧ (∀ a15 : Int, a15 = M13 15 x3 → -1 ≤ a15 → a15 ≤ 59 → w_Trial_weightNow M13 (fun a17 => w_Survey_add M13 a15 a17 (fun M19 => w_S_surveyLayer_j0 Q X41 x1 x3 x4 M19)))))))))))
set_option maxRecDepth 100000 in
set_option maxHeartbeats 4000000 in
theorem s_S_surveyLayer_B0 {Q : Mem → Prop} {x1 : Int} {x3 : Int} {X41 : Int → Mem → Prop} {x4 : Int} {M : Mem} (hC : rC p R s m args meth c cells slots D aC ad 5 cX11_surveyLayer RX11 5 122 none) (hQ : ∀ (pc : Nat) (L : List (Nat × RV)) (M : Mem), decode cX11_surveyLayer pc = .ok (.return_, 1) → Q M → rG p l e R s m args below meth c cells slots Qs D aC ad 5 pc L [] M) (hX41 : ∀ (x4 : Int) (M : Mem), X41 x4 M → rG p l e R s m args below meth c cells slots Qs D aC ad 5 41 [(0, vR 0), (1, vI x1), (3, vI x3), (4, vI x4)] [] M) (hw : w_S_surveyLayer_B0 Q x1 x3 X41 x4 M) : rG p l e R s m args below meth c cells slots Qs D aC ad 5 41 [(0, vR 0), (1, vI x1), (3, vI x3), (4, vI x4)] [] M := by
  unfold w_S_surveyLayer_B0 at hw
  refine r_iload hC dX11_surveyLayer_41 rfl ?_
  refine r_aload_n hC dX11_surveyLayer_43 rfl rfl ?_
  refine r_getR hC 4 rfl (by decide) kf11_34 rfl rfl dX11_surveyLayer_44 ?_
  refine r_getR hC 7 rfl (by decide) kf11_206 rfl rfl dX11_surveyLayer_47 ?_
  refine r_iload_n hC dX11_surveyLayer_50 rfl rfl ?_
  obtain ⟨o1, hw⟩ := hw
  refine r_iald hC rfl o1.1 o1.2 (by decide) (by decide) dX11_surveyLayer_51 (fun b3 b3' => ?_)
  replace hw := hw _ rfl b3 b3'
  obtain ⟨o4, hw⟩ := hw
  obtain ⟨hwt, hwf⟩ := hw
  refine r_icmp_ge hC 116 dX11_surveyLayer_52 (by decide) o4.1 o4.2 (by omega) (by omega) (fun c6 => ?_) (fun c6 => ?_)
  · have hw := hwt c6
    exact hQ _ _ _ dX11_surveyLayer_116 hw
  · have hw := hwf c6
    refine r_aload_n hC dX11_surveyLayer_55 rfl rfl ?_
    refine r_getR hC 4 rfl (by decide) kf11_34 rfl rfl dX11_surveyLayer_56 ?_
    refine r_iload_n hC dX11_surveyLayer_59 rfl rfl ?_
    refine r_aload_n hC dX11_surveyLayer_60 rfl rfl ?_
    refine r_getR hC 0 rfl (by decide) kf11_10 rfl rfl dX11_surveyLayer_61 ?_
    refine r_callV hC (d_Trial_place hw) rfl kC8_place km11_212 kI8_place kS8_place kN8 dd_8_place ⟨Nat.le_of_ble_eq_true rfl, Nat.le_of_ble_eq_true rfl⟩ rfl (Nat.le_of_ble_eq_true rfl) dX11_surveyLayer_64 (fun r M' hp => ?_)
    obtain ⟨rfl, a7, rfl, hw⟩ := hp
    try dsimp only at hw
    refine r_callV hC (d_Words_keep hw) rfl kC9_keep km11_216 kI9_keep kS9_keep kN9 dd_9_keep ⟨Nat.le_of_ble_eq_true rfl, Nat.le_of_ble_eq_true rfl⟩ rfl (Nat.le_of_ble_eq_true rfl) dX11_surveyLayer_67 (fun r M' hp => ?_)
    obtain ⟨rfl, a8, rfl, hw⟩ := hp
    try dsimp only at hw
    obtain ⟨o9, hw⟩ := hw
    obtain ⟨hwt, hwf⟩ := hw
    refine r_if_eq hC 103 dX11_surveyLayer_70 (by decide) o9.1 o9.2 (fun c11 => ?_) (fun c11 => ?_)
    · have hw := hwt c11
      exact r_subk (s_S_surveyLayer_j0 hC hQ hX41 hw) ⟨rfl, rfl, rfl, rfl, trivial⟩
    · have hw := hwf c11
      refine r_aload_n hC dX11_surveyLayer_73 rfl rfl ?_
      refine r_getR hC 0 rfl (by decide) kf11_10 rfl rfl dX11_surveyLayer_74 ?_
      refine r_callV hC (d_Trial_play hw) rfl kC8_play km11_252 kI8_play kS8_play kN8 dd_8_play ⟨Nat.le_of_ble_eq_true rfl, Nat.le_of_ble_eq_true rfl⟩ rfl (Nat.le_of_ble_eq_true rfl) dX11_surveyLayer_77 (fun r M' hp => ?_)
      obtain ⟨rfl, hw⟩ := hp
      try dsimp only at hw
      refine r_aload_n hC dX11_surveyLayer_80 rfl rfl ?_
      refine r_getR hC 8 rfl (by decide) kf11_62 rfl rfl dX11_surveyLayer_81 ?_
      refine r_aload_n hC dX11_surveyLayer_84 rfl rfl ?_
      refine r_getR hC 0 rfl (by decide) kf11_10 rfl rfl dX11_surveyLayer_85 ?_
      refine r_getR hC 5 rfl (by decide) kf11_182 rfl rfl dX11_surveyLayer_88 ?_
      refine r_iload_n hC dX11_surveyLayer_91 rfl rfl ?_
      obtain ⟨o14, hw⟩ := hw
      refine r_iald hC rfl o14.1 o14.2 (by decide) (by decide) dX11_surveyLayer_92 (fun b16 b16' => ?_)
      replace hw := hw _ rfl b16 b16'
      refine r_aload_n hC dX11_surveyLayer_93 rfl rfl ?_
      refine r_getR hC 0 rfl (by decide) kf11_10 rfl rfl dX11_surveyLayer_94 ?_
      refine r_callV hC (d_Trial_weightNow hw) rfl kC8_weightNow km11_255 kI8_weightNow kS8_weightNow kN8 dd_8_weightNow ⟨Nat.le_of_ble_eq_true rfl, Nat.le_of_ble_eq_true rfl⟩ rfl (Nat.le_of_ble_eq_true rfl) dX11_surveyLayer_97 (fun r M' hp => ?_)
      obtain ⟨rfl, a17, rfl, hw⟩ := hp
      try dsimp only at hw
      refine r_callV hC (d_Survey_add hw) rfl kC6_add km11_258 kI6_add kS6_add kN6 dd_6_add ⟨Nat.le_of_ble_eq_true rfl, Nat.le_of_ble_eq_true rfl⟩ rfl (Nat.le_of_ble_eq_true rfl) dX11_surveyLayer_100 (fun r M' hp => ?_)
      obtain ⟨rfl, hw⟩ := hp
      try dsimp only at hw
      exact r_subk (s_S_surveyLayer_j0 hC hQ hX41 hw) ⟨rfl, rfl, rfl, rfl, trivial⟩
def w_S_surveyLayer_L0 (Q : Mem → Prop) (x1 : Int) (x3 : Int) (x4 : Int) (M : Mem) : Prop :=
  ∀ X : Int → Mem → Prop, (∀ (x4 : Int) (M : Mem), w_S_surveyLayer_B0 Q x1 x3 X x4 M → X x4 M) → X x4 M
set_option maxRecDepth 100000 in
set_option maxHeartbeats 4000000 in
theorem s_S_surveyLayer_L0 {Q : Mem → Prop} {x1 : Int} {x3 : Int} {x4 : Int} {M : Mem} (hC : rC p R s m args meth c cells slots D aC ad 5 cX11_surveyLayer RX11 5 122 none) (hQ : ∀ (pc : Nat) (L : List (Nat × RV)) (M : Mem), decode cX11_surveyLayer pc = .ok (.return_, 1) → Q M → rG p l e R s m args below meth c cells slots Qs D aC ad 5 pc L [] M) (hw : w_S_surveyLayer_L0 Q x1 x3 x4 M) : rG p l e R s m args below meth c cells slots Qs D aC ad 5 41 [(0, vR 0), (1, vI x1), (3, vI x3), (4, vI x4)] [] M := by
  unfold w_S_surveyLayer_L0 at hw
  exact hw (fun x4 M => rG p l e R s m args below meth c cells slots Qs D aC ad 5 41 [(0, vR 0), (1, vI x1), (3, vI x3), (4, vI x4)] [] M) (fun x4 M hb => s_S_surveyLayer_B0 hC hQ (fun _ _ h => h) hb)
def w_S_surveyLayer (M : Mem) (x1 : Int) (x2 : Int) (x3 : Int) (Q : Mem → Prop) : Prop :=
  w_Words_look M x1 (fun M2 => w_Survey_begin M2 0 (fun M4 => w_Trial_begin M4 x1 (fun M6 => w_Trial_under M6 x2 0 0 (fun M8 => w_S_surveyLayer_L0 Q x1 x3 0 M8))))
set_option maxRecDepth 100000 in
set_option maxHeartbeats 4000000 in
theorem s_S_surveyLayer {M : Mem} {x1 : Int} {x2 : Int} {x3 : Int} {Q : Mem → Prop} (hC : rC p R s m args meth c cells slots D aC ad 5 cX11_surveyLayer RX11 5 122 none) (hQ : ∀ (pc : Nat) (L : List (Nat × RV)) (M : Mem), decode cX11_surveyLayer pc = .ok (.return_, 1) → Q M → rG p l e R s m args below meth c cells slots Qs D aC ad 5 pc L [] M) (hw : w_S_surveyLayer M x1 x2 x3 Q) : rG p l e R s m args below meth c cells slots Qs D aC ad 5 0 [(0, vR 0), (1, vI x1), (2, vI x2), (3, vI x3)] [] M := by
  unfold w_S_surveyLayer at hw
  refine r_aload_n hC dX11_surveyLayer_0 rfl rfl ?_
  refine r_getR hC 4 rfl (by decide) kf11_34 rfl rfl dX11_surveyLayer_1 ?_
  refine r_aload_n hC dX11_surveyLayer_4 rfl rfl ?_
  refine r_getR hC 0 rfl (by decide) kf11_10 rfl rfl dX11_surveyLayer_5 ?_
  refine r_iload_n hC dX11_surveyLayer_8 rfl rfl ?_
  refine r_callV hC (d_Words_look hw) rfl kC9_look km11_188 kI9_look kS9_look kN9 dd_9_look ⟨Nat.le_of_ble_eq_true rfl, Nat.le_of_ble_eq_true rfl⟩ rfl (Nat.le_of_ble_eq_true rfl) dX11_surveyLayer_9 (fun r M' hp => ?_)
  obtain ⟨rfl, hw⟩ := hp
  try dsimp only at hw
  refine r_aload_n hC dX11_surveyLayer_12 rfl rfl ?_
  refine r_getR hC 8 rfl (by decide) kf11_62 rfl rfl dX11_surveyLayer_13 ?_
  refine r_iconst hC dX11_surveyLayer_16 ?_
  refine r_callV hC (d_Survey_begin hw) rfl kC6_begin km11_248 kI6_begin kS6_begin kN6 dd_6_begin ⟨Nat.le_of_ble_eq_true rfl, Nat.le_of_ble_eq_true rfl⟩ rfl (Nat.le_of_ble_eq_true rfl) dX11_surveyLayer_17 (fun r M' hp => ?_)
  obtain ⟨rfl, hw⟩ := hp
  try dsimp only at hw
  refine r_aload_n hC dX11_surveyLayer_20 rfl rfl ?_
  refine r_getR hC 0 rfl (by decide) kf11_10 rfl rfl dX11_surveyLayer_21 ?_
  refine r_iload_n hC dX11_surveyLayer_24 rfl rfl ?_
  refine r_callV hC (d_Trial_begin hw) rfl kC8_begin km11_202 kI8_begin kS8_begin kN8 dd_8_begin ⟨Nat.le_of_ble_eq_true rfl, Nat.le_of_ble_eq_true rfl⟩ rfl (Nat.le_of_ble_eq_true rfl) dX11_surveyLayer_25 (fun r M' hp => ?_)
  obtain ⟨rfl, hw⟩ := hp
  try dsimp only at hw
  refine r_aload_n hC dX11_surveyLayer_28 rfl rfl ?_
  refine r_getR hC 0 rfl (by decide) kf11_10 rfl rfl dX11_surveyLayer_29 ?_
  refine r_iload_n hC dX11_surveyLayer_32 rfl rfl ?_
  refine r_iconst hC dX11_surveyLayer_33 ?_
  refine r_iconst hC dX11_surveyLayer_34 ?_
  refine r_callV hC (d_Trial_under hw) rfl kC8_under km11_249 kI8_under kS8_under kN8 dd_8_under ⟨Nat.le_of_ble_eq_true rfl, Nat.le_of_ble_eq_true rfl⟩ rfl (Nat.le_of_ble_eq_true rfl) dX11_surveyLayer_35 (fun r M' hp => ?_)
  obtain ⟨rfl, hw⟩ := hp
  try dsimp only at hw
  refine r_iconst hC dX11_surveyLayer_38 ?_
  refine r_istore hC dX11_surveyLayer_39 (by decide) ?_
  exact r_subk (s_S_surveyLayer_L0 hC hQ hw) ⟨rfl, rfl, rfl, rfl, trivial⟩
set_option maxRecDepth 100000 in
set_option maxHeartbeats 4000000 in
theorem d_S_surveyLayer {l : Launch} {D : va_G} {aC : Nat → ClassId} {ad : Nat → Nat} {M : Mem} {x1 : Int} {x2 : Int} {x3 : Int} {Q : Mem → Prop} (hw : w_S_surveyLayer M x1 x2 x3 Q) : Does l D aC ad yX11_surveyLayer cX11_surveyLayer 5 none 5 122 [vR 0, vI x1, vI x2, vI x3] M (pV Q) :=
  Does.of (by decide) (Nat.le_of_ble_eq_true rfl) (fun p e R s m args below meth c hC => r_subk (s_S_surveyLayer hC (fun pc L M d h => r_vret hC d ⟨rfl, h⟩) hw) ⟨rfl, rfl, rfl, rfl, trivial⟩)
/-- SoupSand.leastTerms -/
def w_S_leastTerms_j1 (Q : Int → Prop) (x5 : Int) (s0 : Int) (M : Mem) : Prop :=
  ((0 ≤ s0 ∧ s0 ≤ 9223372036854775807) ∧ (0 < x5 ∧ x5 ≤ 9223372036854775807)) ∧ (Q (s0 / x5))
set_option maxRecDepth 100000 in
set_option maxHeartbeats 4000000 in
theorem s_S_leastTerms_j1 {Q : Int → Prop} {x5 : Int} {s0 : Int} {M : Mem} (hC : rC p R s m args meth c cells slots D aC ad 12 cX11_leastTerms RX11 0 0 (some .long)) (hQ : ∀ (pc : Nat) (L : List (Nat × RV)) (z : Int), decode cX11_leastTerms pc = .ok (.lreturn, 1) → Q z → rG p l e R s m args below meth c cells slots Qs D aC ad 12 pc L [vJ z] M) (hw : w_S_leastTerms_j1 Q x5 s0 M) : rG p l e R s m args below meth c cells slots Qs D aC ad 12 64 [(5, vJ x5)] [vJ s0] M := by
  unfold w_S_leastTerms_j1 at hw
  refine r_lload hC dX11_leastTerms_64 rfl ?_
  obtain ⟨o1, hw⟩ := hw
  refine r_ldiv hC dX11_leastTerms_66 o1.1.1 o1.1.2 o1.2.1 o1.2.2 ?_
  exact hQ _ _ _ dX11_leastTerms_67 hw
def w_S_leastTerms_j0 (Q : Int → Prop) (x0 : Int) (x2 : Int) (x4 : Int) (x5 : Int) (M : Mem) : Prop :=
  (-9223372036854775808 ≤ x5 ∧ x5 ≤ 9223372036854775807) ∧ ((¬ (x5 = 0) → (-2147483648 ≤ x4 ∧ x4 ≤ 2147483647) ∧ ((¬ (x4 = 0) → w_S_leastTerms_j1 Q x5 x2 M) ∧ (x4 = 0 → w_S_leastTerms_j1 Q x5 x0 M))) ∧ (x5 = 0 → Q 0))
set_option maxRecDepth 100000 in
set_option maxHeartbeats 4000000 in
theorem s_S_leastTerms_j0 {Q : Int → Prop} {x0 : Int} {x2 : Int} {x4 : Int} {x5 : Int} {M : Mem} (hC : rC p R s m args meth c cells slots D aC ad 12 cX11_leastTerms RX11 0 0 (some .long)) (hQ : ∀ (pc : Nat) (L : List (Nat × RV)) (z : Int), decode cX11_leastTerms pc = .ok (.lreturn, 1) → Q z → rG p l e R s m args below meth c cells slots Qs D aC ad 12 pc L [vJ z] M) (hw : w_S_leastTerms_j0 Q x0 x2 x4 x5 M) : rG p l e R s m args below meth c cells slots Qs D aC ad 12 45 [(0, vJ x0), (2, vJ x2), (4, vI x4), (5, vJ x5)] [] M := by
  unfold w_S_leastTerms_j0 at hw
  refine r_lload hC dX11_leastTerms_45 rfl ?_
  refine r_lconst hC 0 dX11_leastTerms_47 (by decide) ?_
  obtain ⟨o1, hw⟩ := hw
  obtain ⟨hwt, hwf⟩ := hw
  refine r_lcmp_ne hC 54 dX11_leastTerms_48 dX11_leastTerms_49 (by decide) o1.1 o1.2 (by decide) (by decide) (fun c3 => ?_) (fun c3 => ?_)
  · have hw := hwt c3
    refine r_iload hC dX11_leastTerms_54 rfl ?_
    obtain ⟨o4, hw⟩ := hw
    obtain ⟨hwt, hwf⟩ := hw
    refine r_if_ne hC 63 dX11_leastTerms_56 (by decide) o4.1 o4.2 (fun c6 => ?_) (fun c6 => ?_)
    · have hw := hwt c6
      refine r_lload_n hC dX11_leastTerms_63 rfl rfl ?_
      exact r_subk (s_S_leastTerms_j1 hC hQ hw) ⟨rfl, trivial⟩
    · have hw := hwf c6
      refine r_lload_n hC dX11_leastTerms_59 rfl rfl ?_
      refine r_goto hC 64 dX11_leastTerms_60 (by decide) ?_
      exact r_subk (s_S_leastTerms_j1 hC hQ hw) ⟨rfl, trivial⟩
  · have hw := hwf c3
    refine r_lconst hC 0 dX11_leastTerms_52 (by decide) ?_
    exact hQ _ _ _ dX11_leastTerms_53 hw
def w_S_leastTerms_B0 (Q : Int → Prop) (x0 : Int) (x2 : Int) (x4 : Int) (M : Mem) (X9 : Int → Int → Int → Prop) (x5 : Int) (x7 : Int) (x9 : Int) : Prop :=
  (-2147483648 ≤ x9 ∧ x9 ≤ 2147483647) ∧ ((200 ≤ x9 → w_S_leastTerms_j0 Q x0 x2 x4 x5 M) ∧ (¬ (200 ≤ x9) → (-9223372036854775808 ≤ x7 ∧ x7 ≤ 9223372036854775807) ∧ ((x7 = 0 → w_S_leastTerms_j0 Q x0 x2 x4 x5 M) ∧ (¬ (x7 = 0) → ((0 ≤ x5 ∧ x5 ≤ 9223372036854775807) ∧ (0 < x7 ∧ x7 ≤ 9223372036854775807)) ∧ (X9 x7 (x5 % x7) (x9 + 1))))))
set_option maxRecDepth 100000 in
set_option maxHeartbeats 4000000 in
theorem s_S_leastTerms_B0 {Q : Int → Prop} {x0 : Int} {x2 : Int} {x4 : Int} {M : Mem} {X9 : Int → Int → Int → Prop} {x5 : Int} {x7 : Int} {x9 : Int} (hC : rC p R s m args meth c cells slots D aC ad 12 cX11_leastTerms RX11 0 0 (some .long)) (hQ : ∀ (pc : Nat) (L : List (Nat × RV)) (z : Int), decode cX11_leastTerms pc = .ok (.lreturn, 1) → Q z → rG p l e R s m args below meth c cells slots Qs D aC ad 12 pc L [vJ z] M) (hX9 : ∀ (x5 : Int) (x7 : Int) (x9 : Int), X9 x5 x7 x9 → rG p l e R s m args below meth c cells slots Qs D aC ad 12 9 [(0, vJ x0), (2, vJ x2), (4, vI x4), (5, vJ x5), (7, vJ x7), (9, vI x9)] [] M) (hw : w_S_leastTerms_B0 Q x0 x2 x4 M X9 x5 x7 x9) : rG p l e R s m args below meth c cells slots Qs D aC ad 12 9 [(0, vJ x0), (2, vJ x2), (4, vI x4), (5, vJ x5), (7, vJ x7), (9, vI x9)] [] M := by
  unfold w_S_leastTerms_B0 at hw
  refine r_iload hC dX11_leastTerms_9 rfl ?_
  refine r_sipush hC dX11_leastTerms_11 (by decide) ?_
  obtain ⟨o1, hw⟩ := hw
  obtain ⟨hwt, hwf⟩ := hw
  refine r_icmp_ge hC 45 dX11_leastTerms_14 (by decide) o1.1 o1.2 (by decide) (by decide) (fun c3 => ?_) (fun c3 => ?_)
  · have hw := hwt c3
    exact r_subk (s_S_leastTerms_j0 hC hQ hw) ⟨rfl, rfl, rfl, rfl, trivial⟩
  · have hw := hwf c3
    refine r_lload hC dX11_leastTerms_17 rfl ?_
    refine r_lconst hC 0 dX11_leastTerms_19 (by decide) ?_
    obtain ⟨o4, hw⟩ := hw
    obtain ⟨hwt, hwf⟩ := hw
    refine r_lcmp_eq hC 45 dX11_leastTerms_20 dX11_leastTerms_21 (by decide) o4.1 o4.2 (by decide) (by decide) (fun c6 => ?_) (fun c6 => ?_)
    · have hw := hwt c6
      exact r_subk (s_S_leastTerms_j0 hC hQ hw) ⟨rfl, rfl, rfl, rfl, trivial⟩
    · have hw := hwf c6
      refine r_lload hC dX11_leastTerms_24 rfl ?_
      refine r_lload hC dX11_leastTerms_26 rfl ?_
      obtain ⟨o7, hw⟩ := hw
      refine r_lrem hC dX11_leastTerms_28 o7.1.1 o7.1.2 o7.2.1 o7.2.2 ?_
      refine r_lstore hC dX11_leastTerms_29 (by decide) ?_
      refine r_lload hC dX11_leastTerms_31 rfl ?_
      refine r_lstore hC dX11_leastTerms_33 (by decide) ?_
      refine r_lload hC dX11_leastTerms_35 rfl ?_
      refine r_lstore hC dX11_leastTerms_37 (by decide) ?_
      refine r_iinc hC dX11_leastTerms_39 rfl (by decide) ?_
      refine r_goto hC 9 dX11_leastTerms_42 (by decide) ?_
      exact r_subk (hX9 _ _ _ hw) ⟨rfl, rfl, rfl, rfl, rfl, rfl, trivial⟩
def w_S_leastTerms_L0 (Q : Int → Prop) (x0 : Int) (x2 : Int) (x4 : Int) (M : Mem) (x5 : Int) (x7 : Int) (x9 : Int) : Prop :=
  ∀ X : Int → Int → Int → Prop, (∀ (x5 : Int) (x7 : Int) (x9 : Int), w_S_leastTerms_B0 Q x0 x2 x4 M X x5 x7 x9 → X x5 x7 x9) → X x5 x7 x9
set_option maxRecDepth 100000 in
set_option maxHeartbeats 4000000 in
theorem s_S_leastTerms_L0 {Q : Int → Prop} {x0 : Int} {x2 : Int} {x4 : Int} {M : Mem} {x5 : Int} {x7 : Int} {x9 : Int} (hC : rC p R s m args meth c cells slots D aC ad 12 cX11_leastTerms RX11 0 0 (some .long)) (hQ : ∀ (pc : Nat) (L : List (Nat × RV)) (z : Int), decode cX11_leastTerms pc = .ok (.lreturn, 1) → Q z → rG p l e R s m args below meth c cells slots Qs D aC ad 12 pc L [vJ z] M) (hw : w_S_leastTerms_L0 Q x0 x2 x4 M x5 x7 x9) : rG p l e R s m args below meth c cells slots Qs D aC ad 12 9 [(0, vJ x0), (2, vJ x2), (4, vI x4), (5, vJ x5), (7, vJ x7), (9, vI x9)] [] M := by
  unfold w_S_leastTerms_L0 at hw
  exact hw (fun x5 x7 x9 => rG p l e R s m args below meth c cells slots Qs D aC ad 12 9 [(0, vJ x0), (2, vJ x2), (4, vI x4), (5, vJ x5), (7, vJ x7), (9, vI x9)] [] M) (fun x5 x7 x9 hb => s_S_leastTerms_B0 hC hQ (fun _ _ _ h => h) hb)
def w_S_leastTerms (M : Mem) (x0 : Int) (x2 : Int) (x4 : Int) (Q : Int → Prop) : Prop :=
  w_S_leastTerms_L0 Q x0 x2 x4 M x2 x0 0
set_option maxRecDepth 100000 in
set_option maxHeartbeats 4000000 in
theorem s_S_leastTerms {M : Mem} {x0 : Int} {x2 : Int} {x4 : Int} {Q : Int → Prop} (hC : rC p R s m args meth c cells slots D aC ad 12 cX11_leastTerms RX11 0 0 (some .long)) (hQ : ∀ (pc : Nat) (L : List (Nat × RV)) (z : Int), decode cX11_leastTerms pc = .ok (.lreturn, 1) → Q z → rG p l e R s m args below meth c cells slots Qs D aC ad 12 pc L [vJ z] M) (hw : w_S_leastTerms M x0 x2 x4 Q) : rG p l e R s m args below meth c cells slots Qs D aC ad 12 0 [(0, vJ x0), (2, vJ x2), (4, vI x4)] [] M := by
  unfold w_S_leastTerms at hw
  refine r_lload_n hC dX11_leastTerms_0 rfl rfl ?_
  refine r_lstore hC dX11_leastTerms_1 (by decide) ?_
  refine r_lload_n hC dX11_leastTerms_3 rfl rfl ?_
  refine r_lstore hC dX11_leastTerms_4 (by decide) ?_
  refine r_iconst hC dX11_leastTerms_6 ?_
  refine r_istore hC dX11_leastTerms_7 (by decide) ?_
  exact r_subk (s_S_leastTerms_L0 hC hQ hw) ⟨rfl, rfl, rfl, rfl, rfl, rfl, trivial⟩
set_option maxRecDepth 100000 in
set_option maxHeartbeats 4000000 in
theorem d_S_leastTerms {l : Launch} {D : va_G} {aC : Nat → ClassId} {ad : Nat → Nat} {M : Mem} {x0 : Int} {x2 : Int} {x4 : Int} {Q : Int → Prop} (hw : w_S_leastTerms M x0 x2 x4 Q) : Does l D aC ad yX11_leastTerms cX11_leastTerms 12 (some .long) 0 0 [vJ x0, vJ x2, vI x4] M (qJ M Q) :=
  Does.of (by decide) (Nat.le_of_ble_eq_true rfl) (fun p e R s m args below meth c hC => r_subk (s_S_leastTerms hC (fun pc L z d h => r_lret hC d ⟨rfl, ⟨z, rfl, h⟩⟩) hw) ⟨rfl, rfl, rfl, trivial⟩)
theorem dd_11_leastTerms : yX11_leastTerms.cls ≠ "java/lang/invoke/MethodHandle" ∧ yX11_leastTerms.cls ≠ "java/lang/invoke/VarHandle" ∧ (parseMethodDescriptor yX11_leastTerms.desc).map (fun d => d.parameters.length) = some 3 := by decide +kernel
/-- SoupSand$Survey.fraction -/
def w_Survey_fraction (M : Mem) (x1 : Int) (Q : Int → Prop) : Prop :=
  ∀ a1 : Int, a1 = M 9 3 → -1125899906842624 ≤ a1 → a1 ≤ 1125899906842624 → ∀ a3 : Int, a3 = M 9 2 → -1125899906842624 ≤ a3 → a3 ≤ 1125899906842624 → w_S_leastTerms M a1 a3 x1 (fun a5 => Q a5)
set_option maxRecDepth 100000 in
set_option maxHeartbeats 4000000 in
theorem s_Survey_fraction {M : Mem} {x1 : Int} {Q : Int → Prop} (hC : rC p R s m args meth c cells slots D aC ad 2 cX6_fraction RX6 1 31 (some .long)) (hQ : ∀ (pc : Nat) (L : List (Nat × RV)) (z : Int), decode cX6_fraction pc = .ok (.lreturn, 1) → Q z → rG p l e R s m args below meth c cells slots Qs D aC ad 2 pc L [vJ z] M) (hw : w_Survey_fraction M x1 Q) : rG p l e R s m args below meth c cells slots Qs D aC ad 2 0 [(0, vR 9), (1, vI x1)] [] M := by
  unfold w_Survey_fraction at hw
  refine r_aload_n hC dX6_fraction_0 rfl rfl ?_
  refine r_getJ hC 3 rfl (by decide) kf6_23 rfl rfl dX6_fraction_1 (fun b2 b2' => ?_)
  replace hw := hw _ rfl b2 b2'
  refine r_aload_n hC dX6_fraction_4 rfl rfl ?_
  refine r_getJ hC 2 rfl (by decide) kf6_19 rfl rfl dX6_fraction_5 (fun b4 b4' => ?_)
  replace hw := hw _ rfl b4 b4'
  refine r_iload_n hC dX6_fraction_8 rfl rfl ?_
  refine r_callSN hC (d_S_leastTerms hw) kC11_leastTerms kn6_44 kT11_leastTerms kN11 dd_11_leastTerms ⟨Nat.le_of_ble_eq_true rfl, Nat.le_of_ble_eq_true rfl⟩ rfl (Nat.le_of_ble_eq_true rfl) dX6_fraction_9 (fun r M' hp => ?_)
  obtain ⟨rfl, a5, rfl, hw⟩ := hp
  try dsimp only at hw
  exact hQ _ _ _ dX6_fraction_12 hw
set_option maxRecDepth 100000 in
set_option maxHeartbeats 4000000 in
theorem d_Survey_fraction {l : Launch} {D : va_G} {aC : Nat → ClassId} {ad : Nat → Nat} {M : Mem} {x1 : Int} {Q : Int → Prop} (hw : w_Survey_fraction M x1 Q) : Does l D aC ad yX6_fraction cX6_fraction 2 (some .long) 1 31 [vR 9, vI x1] M (qJ M Q) :=
  Does.of (by decide) (Nat.le_of_ble_eq_true rfl) (fun p e R s m args below meth c hC => r_subk (s_Survey_fraction hC (fun pc L z d h => r_lret hC d ⟨rfl, ⟨z, rfl, h⟩⟩) hw) ⟨rfl, rfl, trivial⟩)
theorem dd_6_fraction : yX6_fraction.cls ≠ "java/lang/invoke/MethodHandle" ∧ yX6_fraction.cls ≠ "java/lang/invoke/VarHandle" ∧ (parseMethodDescriptor yX6_fraction.desc).map (fun d => d.parameters.length) = some 1 := by decide +kernel
theorem dd_11_surveyLayer : yX11_surveyLayer.cls ≠ "java/lang/invoke/MethodHandle" ∧ yX11_surveyLayer.cls ≠ "java/lang/invoke/VarHandle" ∧ (parseMethodDescriptor yX11_surveyLayer.desc).map (fun d => d.parameters.length) = some 3 := by decide +kernel
/-- SoupSand.odds -/
def w_S_odds (M : Mem) (x1 : Int) (x2 : Int) (x3 : Int) (x4 : Int) (Q : Int → Mem → Prop) : Prop :=
  w_Ground_hasLayer M x1 x3 (fun a1 => (-2147483648 ≤ a1 ∧ a1 ≤ 2147483647) ∧ ((a1 = 0 → Q (-1001) M) ∧ (¬ (a1 = 0) → w_Shakes_hasShake M x2 (fun a5 => (-2147483648 ≤ a5 ∧ a5 ≤ 2147483647) ∧ ((¬ (a5 = 0) → w_S_beyond M x4 0 1 (fun a9 => (-2147483648 ≤ a9 ∧ a9 ≤ 2147483647) ∧ ((a9 = 0 → w_S_surveyLayer M x1 x2 x3 (fun M14 => ∀ a15 : Int, a15 = M14 9 0 → 0 ≤ a15 → a15 ≤ 729 → (¬ (a15 = 0) → w_Survey_fraction M14 x4 (fun a20 => Q a20 M14)) ∧ (a15 = 0 → Q (-1005) M14))) ∧ (¬ (a9 = 0) → Q (-1002) M)))) ∧ (a5 = 0 → Q (-1001) M))))))
set_option maxRecDepth 100000 in
set_option maxHeartbeats 4000000 in
theorem s_S_odds {M : Mem} {x1 : Int} {x2 : Int} {x3 : Int} {x4 : Int} {Q : Int → Mem → Prop} (hC : rC p R s m args meth c cells slots D aC ad 5 cX11_odds RX11 6 146 (some .long)) (hQ : ∀ (pc : Nat) (L : List (Nat × RV)) (z : Int) (M : Mem), decode cX11_odds pc = .ok (.lreturn, 1) → Q z M → rG p l e R s m args below meth c cells slots Qs D aC ad 5 pc L [vJ z] M) (hw : w_S_odds M x1 x2 x3 x4 Q) : rG p l e R s m args below meth c cells slots Qs D aC ad 5 0 [(0, vR 0), (1, vI x1), (2, vI x2), (3, vI x3), (4, vI x4)] [] M := by
  unfold w_S_odds at hw
  refine r_aload_n hC dX11_odds_0 rfl rfl ?_
  refine r_getR hC 1 rfl (by decide) kf11_20 rfl rfl dX11_odds_1 ?_
  refine r_iload_n hC dX11_odds_4 rfl rfl ?_
  refine r_iload_n hC dX11_odds_5 rfl rfl ?_
  refine r_callV hC (d_Ground_hasLayer hw) rfl kC0_hasLayer km11_107 kI0_hasLayer kS0_hasLayer kN0 dd_0_hasLayer ⟨Nat.le_of_ble_eq_true rfl, Nat.le_of_ble_eq_true rfl⟩ rfl (Nat.le_of_ble_eq_true rfl) dX11_odds_6 (fun r M' hp => ?_)
  obtain ⟨rfl, a1, rfl, hw⟩ := hp
  try dsimp only at hw
  obtain ⟨o2, hw⟩ := hw
  obtain ⟨hwt, hwf⟩ := hw
  refine r_if_eq hC 23 dX11_odds_9 (by decide) o2.1 o2.2 (fun c4 => ?_) (fun c4 => ?_)
  · have hw := hwt c4
    refine r_ldc2 hC (-1001) dX11_odds_23 kL11_222 (by decide) ?_
    exact hQ _ _ _ _ dX11_odds_26 hw
  · have hw := hwf c4
    refine r_aload_n hC dX11_odds_12 rfl rfl ?_
    refine r_getR hC 2 rfl (by decide) kf11_25 rfl rfl dX11_odds_13 ?_
    refine r_iload_n hC dX11_odds_16 rfl rfl ?_
    refine r_callV hC (d_Shakes_hasShake hw) rfl kC4_hasShake km11_147 kI4_hasShake kS4_hasShake kN4 dd_4_hasShake ⟨Nat.le_of_ble_eq_true rfl, Nat.le_of_ble_eq_true rfl⟩ rfl (Nat.le_of_ble_eq_true rfl) dX11_odds_17 (fun r M' hp => ?_)
    obtain ⟨rfl, a5, rfl, hw⟩ := hp
    try dsimp only at hw
    obtain ⟨o6, hw⟩ := hw
    obtain ⟨hwt, hwf⟩ := hw
    refine r_if_ne hC 27 dX11_odds_20 (by decide) o6.1 o6.2 (fun c8 => ?_) (fun c8 => ?_)
    · have hw := hwt c8
      refine r_iload hC dX11_odds_27 rfl ?_
      refine r_iconst hC dX11_odds_29 ?_
      refine r_iconst hC dX11_odds_30 ?_
      refine r_callS hC (d_S_beyond hw) kC11_beyond km11_86 kT11_beyond kN11 dd_11_beyond ⟨Nat.le_of_ble_eq_true rfl, Nat.le_of_ble_eq_true rfl⟩ rfl (Nat.le_of_ble_eq_true rfl) dX11_odds_31 (fun r M' hp => ?_)
      obtain ⟨rfl, a9, rfl, hw⟩ := hp
      try dsimp only at hw
      obtain ⟨o10, hw⟩ := hw
      obtain ⟨hwt, hwf⟩ := hw
      refine r_if_eq hC 41 dX11_odds_34 (by decide) o10.1 o10.2 (fun c12 => ?_) (fun c12 => ?_)
      · have hw := hwt c12
        refine r_aload_n hC dX11_odds_41 rfl rfl ?_
        refine r_iload_n hC dX11_odds_42 rfl rfl ?_
        refine r_iload_n hC dX11_odds_43 rfl rfl ?_
        refine r_iload_n hC dX11_odds_44 rfl rfl ?_
        refine r_callV hC (d_S_surveyLayer hw) rfl kC11_surveyLayer km11_226 kI11_surveyLayer kS11_surveyLayer kN11 dd_11_surveyLayer ⟨Nat.le_of_ble_eq_true rfl, Nat.le_of_ble_eq_true rfl⟩ rfl (Nat.le_of_ble_eq_true rfl) dX11_odds_45 (fun r M' hp => ?_)
        obtain ⟨rfl, hw⟩ := hp
        try dsimp only at hw
        refine r_aload_n hC dX11_odds_48 rfl rfl ?_
        refine r_getR hC 8 rfl (by decide) kf11_62 rfl rfl dX11_odds_49 ?_
        refine r_getI hC 0 rfl (by decide) kf11_230 rfl rfl dX11_odds_52 (fun b16 b16' => ?_)
        replace hw := hw _ rfl b16 b16'
        obtain ⟨hwt, hwf⟩ := hw
        refine r_if_ne hC 64 dX11_odds_55 (by decide) (by omega) (by omega) (fun c19 => ?_) (fun c19 => ?_)
        · have hw := hwt c19
          refine r_aload_n hC dX11_odds_64 rfl rfl ?_
          refine r_getR hC 8 rfl (by decide) kf11_62 rfl rfl dX11_odds_65 ?_
          refine r_iload hC dX11_odds_68 rfl ?_
          refine r_callV hC (d_Survey_fraction hw) rfl kC6_fraction km11_235 kI6_fraction kS6_fraction kN6 dd_6_fraction ⟨Nat.le_of_ble_eq_true rfl, Nat.le_of_ble_eq_true rfl⟩ rfl (Nat.le_of_ble_eq_true rfl) dX11_odds_70 (fun r M' hp => ?_)
          obtain ⟨rfl, a20, rfl, hw⟩ := hp
          try dsimp only at hw
          exact hQ _ _ _ _ dX11_odds_73 hw
        · have hw := hwf c19
          refine r_ldc2 hC (-1005) dX11_odds_58 kL11_233 (by decide) ?_
          refine r_goto hC 73 dX11_odds_61 (by decide) ?_
          exact hQ _ _ _ _ dX11_odds_73 hw
      · have hw := hwf c12
        refine r_ldc2 hC (-1002) dX11_odds_37 kL11_224 (by decide) ?_
        exact hQ _ _ _ _ dX11_odds_40 hw
    · have hw := hwf c8
      refine r_ldc2 hC (-1001) dX11_odds_23 kL11_222 (by decide) ?_
      exact hQ _ _ _ _ dX11_odds_26 hw
set_option maxRecDepth 100000 in
set_option maxHeartbeats 4000000 in
theorem d_S_odds {l : Launch} {D : va_G} {aC : Nat → ClassId} {ad : Nat → Nat} {M : Mem} {x1 : Int} {x2 : Int} {x3 : Int} {x4 : Int} {Q : Int → Mem → Prop} (hw : w_S_odds M x1 x2 x3 x4 Q) : Does l D aC ad yX11_odds cX11_odds 5 (some .long) 6 146 [vR 0, vI x1, vI x2, vI x3, vI x4] M (pJ Q) :=
  Does.of (by decide) (Nat.le_of_ble_eq_true rfl) (fun p e R s m args below meth c hC => r_subk (s_S_odds hC (fun pc L z M d h => r_lret hC d ⟨z, rfl, h⟩) hw) ⟨rfl, rfl, rfl, rfl, rfl, trivial⟩)
/-- SoupSand.step -/
def w_S_step (M : Mem) (x1 : Int) (x2 : Int) (x3 : Int) (x4 : Int) (Q : Int → Mem → Prop) : Prop :=
  w_Ground_hasLayer M x1 x3 (fun a1 => (-2147483648 ≤ a1 ∧ a1 ≤ 2147483647) ∧ ((a1 = 0 → Q (-1001) M) ∧ (¬ (a1 = 0) → w_Shakes_hasShake M x2 (fun a5 => (-2147483648 ≤ a5 ∧ a5 ≤ 2147483647) ∧ ((¬ (a5 = 0) → w_S_beyond M x4 0 1 (fun a9 => (-2147483648 ≤ a9 ∧ a9 ≤ 2147483647) ∧ ((a9 = 0 → w_S_surveyLayer M x1 x2 x3 (fun M14 => ∀ a15 : Int, a15 = M14 9 0 → 0 ≤ a15 → a15 ≤ 729 → (¬ (a15 = 0) → (-2147483648 ≤ x4 ∧ x4 ≤ 2147483647) ∧ ((¬ (x4 = 0) → ∀ a23 : Int, a23 = M14 9 1 → 0 ≤ a23 → a23 ≤ 729 → ∀ a25 : Int, a25 = M14 9 0 → 0 ≤ a25 → a25 ≤ 729 → (a25 ≤ a23 → ∀ a30 : Int, a30 = M14 9 5 → -2147483648 ≤ a30 → a30 ≤ 2147483647 → Q a30 M14) ∧ (¬ (a25 ≤ a23) → Q (-1) M14)) ∧ (x4 = 0 → ∀ a32 : Int, a32 = M14 9 1 → 0 ≤ a32 → a32 ≤ 729 → (¬ (a32 = 0) → ∀ a37 : Int, a37 = M14 9 6 → -2147483648 ≤ a37 → a37 ≤ 2147483647 → Q a37 M14) ∧ (a32 = 0 → Q (-1) M14)))) ∧ (a15 = 0 → Q (-1005) M14))) ∧ (¬ (a9 = 0) → Q (-1002) M)))) ∧ (a5 = 0 → Q (-1001) M))))))
set_option maxRecDepth 100000 in
set_option maxHeartbeats 4000000 in
theorem s_S_step {M : Mem} {x1 : Int} {x2 : Int} {x3 : Int} {x4 : Int} {Q : Int → Mem → Prop} (hC : rC p R s m args meth c cells slots D aC ad 5 cX11_step RX11 6 146 (some .int)) (hQ : ∀ (pc : Nat) (L : List (Nat × RV)) (z : Int) (M : Mem), decode cX11_step pc = .ok (.ireturn, 1) → Q z M → rG p l e R s m args below meth c cells slots Qs D aC ad 5 pc L [vI z] M) (hw : w_S_step M x1 x2 x3 x4 Q) : rG p l e R s m args below meth c cells slots Qs D aC ad 5 0 [(0, vR 0), (1, vI x1), (2, vI x2), (3, vI x3), (4, vI x4)] [] M := by
  unfold w_S_step at hw
  refine r_aload_n hC dX11_step_0 rfl rfl ?_
  refine r_getR hC 1 rfl (by decide) kf11_20 rfl rfl dX11_step_1 ?_
  refine r_iload_n hC dX11_step_4 rfl rfl ?_
  refine r_iload_n hC dX11_step_5 rfl rfl ?_
  refine r_callV hC (d_Ground_hasLayer hw) rfl kC0_hasLayer km11_107 kI0_hasLayer kS0_hasLayer kN0 dd_0_hasLayer ⟨Nat.le_of_ble_eq_true rfl, Nat.le_of_ble_eq_true rfl⟩ rfl (Nat.le_of_ble_eq_true rfl) dX11_step_6 (fun r M' hp => ?_)
  obtain ⟨rfl, a1, rfl, hw⟩ := hp
  try dsimp only at hw
  obtain ⟨o2, hw⟩ := hw
  obtain ⟨hwt, hwf⟩ := hw
  refine r_if_eq hC 23 dX11_step_9 (by decide) o2.1 o2.2 (fun c4 => ?_) (fun c4 => ?_)
  · have hw := hwt c4
    refine r_sipush hC dX11_step_23 (by decide) ?_
    exact hQ _ _ _ _ dX11_step_26 hw
  · have hw := hwf c4
    refine r_aload_n hC dX11_step_12 rfl rfl ?_
    refine r_getR hC 2 rfl (by decide) kf11_25 rfl rfl dX11_step_13 ?_
    refine r_iload_n hC dX11_step_16 rfl rfl ?_
    refine r_callV hC (d_Shakes_hasShake hw) rfl kC4_hasShake km11_147 kI4_hasShake kS4_hasShake kN4 dd_4_hasShake ⟨Nat.le_of_ble_eq_true rfl, Nat.le_of_ble_eq_true rfl⟩ rfl (Nat.le_of_ble_eq_true rfl) dX11_step_17 (fun r M' hp => ?_)
    obtain ⟨rfl, a5, rfl, hw⟩ := hp
    try dsimp only at hw
    obtain ⟨o6, hw⟩ := hw
    obtain ⟨hwt, hwf⟩ := hw
    refine r_if_ne hC 27 dX11_step_20 (by decide) o6.1 o6.2 (fun c8 => ?_) (fun c8 => ?_)
    · have hw := hwt c8
      refine r_iload hC dX11_step_27 rfl ?_
      refine r_iconst hC dX11_step_29 ?_
      refine r_iconst hC dX11_step_30 ?_
      refine r_callS hC (d_S_beyond hw) kC11_beyond km11_86 kT11_beyond kN11 dd_11_beyond ⟨Nat.le_of_ble_eq_true rfl, Nat.le_of_ble_eq_true rfl⟩ rfl (Nat.le_of_ble_eq_true rfl) dX11_step_31 (fun r M' hp => ?_)
      obtain ⟨rfl, a9, rfl, hw⟩ := hp
      try dsimp only at hw
      obtain ⟨o10, hw⟩ := hw
      obtain ⟨hwt, hwf⟩ := hw
      refine r_if_eq hC 41 dX11_step_34 (by decide) o10.1 o10.2 (fun c12 => ?_) (fun c12 => ?_)
      · have hw := hwt c12
        refine r_aload_n hC dX11_step_41 rfl rfl ?_
        refine r_iload_n hC dX11_step_42 rfl rfl ?_
        refine r_iload_n hC dX11_step_43 rfl rfl ?_
        refine r_iload_n hC dX11_step_44 rfl rfl ?_
        refine r_callV hC (d_S_surveyLayer hw) rfl kC11_surveyLayer km11_226 kI11_surveyLayer kS11_surveyLayer kN11 dd_11_surveyLayer ⟨Nat.le_of_ble_eq_true rfl, Nat.le_of_ble_eq_true rfl⟩ rfl (Nat.le_of_ble_eq_true rfl) dX11_step_45 (fun r M' hp => ?_)
        obtain ⟨rfl, hw⟩ := hp
        try dsimp only at hw
        refine r_aload_n hC dX11_step_48 rfl rfl ?_
        refine r_getR hC 8 rfl (by decide) kf11_62 rfl rfl dX11_step_49 ?_
        refine r_getI hC 0 rfl (by decide) kf11_230 rfl rfl dX11_step_52 (fun b16 b16' => ?_)
        replace hw := hw _ rfl b16 b16'
        obtain ⟨hwt, hwf⟩ := hw
        refine r_if_ne hC 62 dX11_step_55 (by decide) (by omega) (by omega) (fun c19 => ?_) (fun c19 => ?_)
        · have hw := hwt c19
          refine r_iload hC dX11_step_62 rfl ?_
          obtain ⟨o20, hw⟩ := hw
          obtain ⟨hwt, hwf⟩ := hw
          refine r_if_ne hC 89 dX11_step_64 (by decide) o20.1 o20.2 (fun c22 => ?_) (fun c22 => ?_)
          · have hw := hwt c22
            refine r_aload_n hC dX11_step_89 rfl rfl ?_
            refine r_getR hC 8 rfl (by decide) kf11_62 rfl rfl dX11_step_90 ?_
            refine r_getI hC 1 rfl (by decide) kf11_239 rfl rfl dX11_step_93 (fun b24 b24' => ?_)
            replace hw := hw _ rfl b24 b24'
            refine r_aload_n hC dX11_step_96 rfl rfl ?_
            refine r_getR hC 8 rfl (by decide) kf11_62 rfl rfl dX11_step_97 ?_
            refine r_getI hC 0 rfl (by decide) kf11_230 rfl rfl dX11_step_100 (fun b26 b26' => ?_)
            replace hw := hw _ rfl b26 b26'
            obtain ⟨hwt, hwf⟩ := hw
            refine r_icmp_ge hC 110 dX11_step_103 (by decide) (by omega) (by omega) (by omega) (by omega) (fun c29 => ?_) (fun c29 => ?_)
            · have hw := hwt c29
              refine r_aload_n hC dX11_step_110 rfl rfl ?_
              refine r_getR hC 8 rfl (by decide) kf11_62 rfl rfl dX11_step_111 ?_
              refine r_getI hC 5 rfl (by decide) kf11_245 rfl rfl dX11_step_114 (fun b31 b31' => ?_)
              replace hw := hw _ rfl b31 b31'
              exact hQ _ _ _ _ dX11_step_117 hw
            · have hw := hwf c29
              refine r_iconst hC dX11_step_106 ?_
              refine r_goto hC 117 dX11_step_107 (by decide) ?_
              exact hQ _ _ _ _ dX11_step_117 hw
          · have hw := hwf c22
            refine r_aload_n hC dX11_step_67 rfl rfl ?_
            refine r_getR hC 8 rfl (by decide) kf11_62 rfl rfl dX11_step_68 ?_
            refine r_getI hC 1 rfl (by decide) kf11_239 rfl rfl dX11_step_71 (fun b33 b33' => ?_)
            replace hw := hw _ rfl b33 b33'
            obtain ⟨hwt, hwf⟩ := hw
            refine r_if_ne hC 81 dX11_step_74 (by decide) (by omega) (by omega) (fun c36 => ?_) (fun c36 => ?_)
            · have hw := hwt c36
              refine r_aload_n hC dX11_step_81 rfl rfl ?_
              refine r_getR hC 8 rfl (by decide) kf11_62 rfl rfl dX11_step_82 ?_
              refine r_getI hC 6 rfl (by decide) kf11_242 rfl rfl dX11_step_85 (fun b38 b38' => ?_)
              replace hw := hw _ rfl b38 b38'
              exact hQ _ _ _ _ dX11_step_88 hw
            · have hw := hwf c36
              refine r_iconst hC dX11_step_77 ?_
              refine r_goto hC 88 dX11_step_78 (by decide) ?_
              exact hQ _ _ _ _ dX11_step_88 hw
        · have hw := hwf c19
          refine r_sipush hC dX11_step_58 (by decide) ?_
          exact hQ _ _ _ _ dX11_step_61 hw
      · have hw := hwf c12
        refine r_sipush hC dX11_step_37 (by decide) ?_
        exact hQ _ _ _ _ dX11_step_40 hw
    · have hw := hwf c8
      refine r_sipush hC dX11_step_23 (by decide) ?_
      exact hQ _ _ _ _ dX11_step_26 hw
set_option maxRecDepth 100000 in
set_option maxHeartbeats 4000000 in
theorem d_S_step {l : Launch} {D : va_G} {aC : Nat → ClassId} {ad : Nat → Nat} {M : Mem} {x1 : Int} {x2 : Int} {x3 : Int} {x4 : Int} {Q : Int → Mem → Prop} (hw : w_S_step M x1 x2 x3 x4 Q) : Does l D aC ad yX11_step cX11_step 5 (some .int) 6 146 [vR 0, vI x1, vI x2, vI x3, vI x4] M (pI Q) :=
  Does.of (by decide) (Nat.le_of_ble_eq_true rfl) (fun p e R s m args below meth c hC => r_subk (s_S_step hC (fun pc L z M d h => r_iret hC d ⟨z, rfl, h⟩) hw) ⟨rfl, rfl, rfl, rfl, rfl, trivial⟩)
/-- SoupSand$Words.addWord -/
def w_Words_addWord (M : Mem) (x1 : Int) (x2 : Int) (x3 : Int) (x4 : Int) (x5 : Int) (Q : Int → Mem → Prop) : Prop :=
  ∀ a1 : Int, a1 = M 5 5 → 0 ≤ a1 → a1 ≤ 16 → ((0 ≤ a1 ∧ a1 < 16) ∧ (0 ≤ x1 ∧ x1 ≤ 5)) ∧ (∀ M4 : Mem, M4 = mset M 31 a1 x1 → ∀ a5 : Int, a5 = M4 5 5 → 0 ≤ a5 → a5 ≤ 16 → ((0 ≤ a5 ∧ a5 < 16) ∧ (0 ≤ x2 ∧ x2 ≤ 2)) ∧ (∀ M8 : Mem, M8 = mset M4 32 a5 x2 → ∀ a9 : Int, a9 = M8 5 5 → 0 ≤ a9 → a9 ≤ 16 → ((0 ≤ a9 ∧ a9 < 16) ∧ (0 ≤ x3 ∧ x3 ≤ 5)) ∧ (∀ M12 : Mem, M12 = mset M8 33 a9 x3 → ∀ a13 : Int, a13 = M12 5 5 → 0 ≤ a13 → a13 ≤ 16 → ((0 ≤ a13 ∧ a13 < 16) ∧ (-2147483648 ≤ x4 ∧ x4 ≤ 2147483647)) ∧ (∀ M16 : Mem, M16 = mset M12 34 a13 x4 → ∀ a17 : Int, a17 = M16 5 5 → 0 ≤ a17 → a17 ≤ 16 → ((0 ≤ a17 ∧ a17 < 16) ∧ (-2147483648 ≤ x5 ∧ x5 ≤ 2147483647)) ∧ (∀ M20 : Mem, M20 = mset M16 35 a17 x5 → ∀ a21 : Int, a21 = M20 5 5 → 0 ≤ a21 → a21 ≤ 16 → (0 ≤ a21 + 1 ∧ a21 + 1 ≤ 16) ∧ (∀ M24 : Mem, M24 = mset M20 5 5 (a21 + 1) → ∀ a25 : Int, a25 = M24 5 5 → 0 ≤ a25 → a25 ≤ 16 → Q (a25 - 1) M24))))))
set_option maxRecDepth 100000 in
set_option maxHeartbeats 4000000 in
theorem s_Words_addWord {M : Mem} {x1 : Int} {x2 : Int} {x3 : Int} {x4 : Int} {x5 : Int} {Q : Int → Mem → Prop} (hC : rC p R s m args meth c cells slots D aC ad 6 cX9_addWord RX9 0 0 (some .int)) (hQ : ∀ (pc : Nat) (L : List (Nat × RV)) (z : Int) (M : Mem), decode cX9_addWord pc = .ok (.ireturn, 1) → Q z M → rG p l e R s m args below meth c cells slots Qs D aC ad 6 pc L [vI z] M) (hw : w_Words_addWord M x1 x2 x3 x4 x5 Q) : rG p l e R s m args below meth c cells slots Qs D aC ad 6 0 [(0, vR 5), (1, vI x1), (2, vI x2), (3, vI x3), (4, vI x4), (5, vI x5)] [] M := by
  unfold w_Words_addWord at hw
  refine r_aload_n hC dX9_addWord_0 rfl rfl ?_
  refine r_getR hC 0 rfl (by decide) kf9_9 rfl rfl dX9_addWord_1 ?_
  refine r_aload_n hC dX9_addWord_4 rfl rfl ?_
  refine r_getI hC 5 rfl (by decide) kf9_33 rfl rfl dX9_addWord_5 (fun b2 b2' => ?_)
  replace hw := hw _ rfl b2 b2'
  refine r_iload_n hC dX9_addWord_8 rfl rfl ?_
  obtain ⟨o3, hw⟩ := hw
  refine r_iast hC rfl o3.1.1 o3.1.2 (by decide) (by decide) o3.2.1 o3.2.2 dX9_addWord_9 ?_
  replace hw := hw _ rfl
  refine r_aload_n hC dX9_addWord_10 rfl rfl ?_
  refine r_getR hC 1 rfl (by decide) kf9_15 rfl rfl dX9_addWord_11 ?_
  refine r_aload_n hC dX9_addWord_14 rfl rfl ?_
  refine r_getI hC 5 rfl (by decide) kf9_33 rfl rfl dX9_addWord_15 (fun b6 b6' => ?_)
  replace hw := hw _ rfl b6 b6'
  refine r_iload_n hC dX9_addWord_18 rfl rfl ?_
  obtain ⟨o7, hw⟩ := hw
  refine r_iast hC rfl o7.1.1 o7.1.2 (by decide) (by decide) o7.2.1 o7.2.2 dX9_addWord_19 ?_
  replace hw := hw _ rfl
  refine r_aload_n hC dX9_addWord_20 rfl rfl ?_
  refine r_getR hC 2 rfl (by decide) kf9_18 rfl rfl dX9_addWord_21 ?_
  refine r_aload_n hC dX9_addWord_24 rfl rfl ?_
  refine r_getI hC 5 rfl (by decide) kf9_33 rfl rfl dX9_addWord_25 (fun b10 b10' => ?_)
  replace hw := hw _ rfl b10 b10'
  refine r_iload_n hC dX9_addWord_28 rfl rfl ?_
  obtain ⟨o11, hw⟩ := hw
  refine r_iast hC rfl o11.1.1 o11.1.2 (by decide) (by decide) o11.2.1 o11.2.2 dX9_addWord_29 ?_
  replace hw := hw _ rfl
  refine r_aload_n hC dX9_addWord_30 rfl rfl ?_
  refine r_getR hC 3 rfl (by decide) kf9_21 rfl rfl dX9_addWord_31 ?_
  refine r_aload_n hC dX9_addWord_34 rfl rfl ?_
  refine r_getI hC 5 rfl (by decide) kf9_33 rfl rfl dX9_addWord_35 (fun b14 b14' => ?_)
  replace hw := hw _ rfl b14 b14'
  refine r_iload hC dX9_addWord_38 rfl ?_
  obtain ⟨o15, hw⟩ := hw
  refine r_iast hC rfl o15.1.1 o15.1.2 (by decide) (by decide) o15.2.1 o15.2.2 dX9_addWord_40 ?_
  replace hw := hw _ rfl
  refine r_aload_n hC dX9_addWord_41 rfl rfl ?_
  refine r_getR hC 4 rfl (by decide) kf9_24 rfl rfl dX9_addWord_42 ?_
  refine r_aload_n hC dX9_addWord_45 rfl rfl ?_
  refine r_getI hC 5 rfl (by decide) kf9_33 rfl rfl dX9_addWord_46 (fun b18 b18' => ?_)
  replace hw := hw _ rfl b18 b18'
  refine r_iload hC dX9_addWord_49 rfl ?_
  obtain ⟨o19, hw⟩ := hw
  refine r_iast hC rfl o19.1.1 o19.1.2 (by decide) (by decide) o19.2.1 o19.2.2 dX9_addWord_51 ?_
  replace hw := hw _ rfl
  refine r_aload_n hC dX9_addWord_52 rfl rfl ?_
  refine r_dup hC dX9_addWord_53 rfl ?_
  refine r_getI hC 5 rfl (by decide) kf9_33 rfl rfl dX9_addWord_54 (fun b22 b22' => ?_)
  replace hw := hw _ rfl b22 b22'
  refine r_iconst hC dX9_addWord_57 ?_
  refine r_iadd hC dX9_addWord_58 ?_
  obtain ⟨o23, hw⟩ := hw
  refine r_putI hC 5 rfl (by decide) kf9_33 rfl rfl o23.1 o23.2 dX9_addWord_59 ?_
  replace hw := hw _ rfl
  refine r_aload_n hC dX9_addWord_62 rfl rfl ?_
  refine r_getI hC 5 rfl (by decide) kf9_33 rfl rfl dX9_addWord_63 (fun b26 b26' => ?_)
  replace hw := hw _ rfl b26 b26'
  refine r_iconst hC dX9_addWord_66 ?_
  refine r_isub hC dX9_addWord_67 ?_
  exact hQ _ _ _ _ dX9_addWord_68 hw
set_option maxRecDepth 100000 in
set_option maxHeartbeats 4000000 in
theorem d_Words_addWord {l : Launch} {D : va_G} {aC : Nat → ClassId} {ad : Nat → Nat} {M : Mem} {x1 : Int} {x2 : Int} {x3 : Int} {x4 : Int} {x5 : Int} {Q : Int → Mem → Prop} (hw : w_Words_addWord M x1 x2 x3 x4 x5 Q) : Does l D aC ad yX9_addWord cX9_addWord 6 (some .int) 0 0 [vR 5, vI x1, vI x2, vI x3, vI x4, vI x5] M (pI Q) :=
  Does.of (by decide) (Nat.le_of_ble_eq_true rfl) (fun p e R s m args below meth c hC => r_subk (s_Words_addWord hC (fun pc L z M d h => r_iret hC d ⟨z, rfl, h⟩) hw) ⟨rfl, rfl, rfl, rfl, rfl, rfl, trivial⟩)
theorem dd_9_addWord : yX9_addWord.cls ≠ "java/lang/invoke/MethodHandle" ∧ yX9_addWord.cls ≠ "java/lang/invoke/VarHandle" ∧ (parseMethodDescriptor yX9_addWord.desc).map (fun d => d.parameters.length) = some 5 := by decide +kernel
/-- SoupSand.word -/
def w_S_word_j1 (Q : Int → Mem → Prop) (x1 : Int) (x2 : Int) (x3 : Int) (x4 : Int) (x5 : Int) (M : Mem) : Prop :=
  ∀ a1 : Int, a1 = M 5 5 → 0 ≤ a1 → a1 ≤ 16 → (a1 < 16 → w_Words_forget M (fun M7 => w_Words_addWord M7 x1 x2 x3 x4 x5 (fun a8 M9 => Q a8 M9))) ∧ (¬ (a1 < 16) → Q (-1004) M)
set_option maxRecDepth 100000 in
set_option maxHeartbeats 4000000 in
theorem s_S_word_j1 {Q : Int → Mem → Prop} {x1 : Int} {x2 : Int} {x3 : Int} {x4 : Int} {x5 : Int} {M : Mem} (hC : rC p R s m args meth c cells slots D aC ad 6 cX11_word RX11 2 43 (some .int)) (hQ : ∀ (pc : Nat) (L : List (Nat × RV)) (z : Int) (M : Mem), decode cX11_word pc = .ok (.ireturn, 1) → Q z M → rG p l e R s m args below meth c cells slots Qs D aC ad 6 pc L [vI z] M) (hw : w_S_word_j1 Q x1 x2 x3 x4 x5 M) : rG p l e R s m args below meth c cells slots Qs D aC ad 6 95 [(0, vR 0), (1, vI x1), (2, vI x2), (3, vI x3), (4, vI x4), (5, vI x5)] [] M := by
  unfold w_S_word_j1 at hw
  refine r_aload_n hC dX11_word_95 rfl rfl ?_
  refine r_getR hC 4 rfl (by decide) kf11_34 rfl rfl dX11_word_96 ?_
  refine r_getI hC 5 rfl (by decide) kf11_160 rfl rfl dX11_word_99 (fun b2 b2' => ?_)
  replace hw := hw _ rfl b2 b2'
  refine r_bipush hC dX11_word_102 (by decide) ?_
  obtain ⟨hwt, hwf⟩ := hw
  refine r_icmp_lt hC 111 dX11_word_104 (by decide) (by omega) (by omega) (by decide) (by decide) (fun c5 => ?_) (fun c5 => ?_)
  · have hw := hwt c5
    refine r_aload_n hC dX11_word_111 rfl rfl ?_
    refine r_getR hC 4 rfl (by decide) kf11_34 rfl rfl dX11_word_112 ?_
    refine r_callV hC (d_Words_forget hw) rfl kC9_forget km11_97 kI9_forget kS9_forget kN9 dd_9_forget ⟨Nat.le_of_ble_eq_true rfl, Nat.le_of_ble_eq_true rfl⟩ rfl (Nat.le_of_ble_eq_true rfl) dX11_word_115 (fun r M' hp => ?_)
    obtain ⟨rfl, hw⟩ := hp
    try dsimp only at hw
    refine r_aload_n hC dX11_word_118 rfl rfl ?_
    refine r_getR hC 4 rfl (by decide) kf11_34 rfl rfl dX11_word_119 ?_
    refine r_iload_n hC dX11_word_122 rfl rfl ?_
    refine r_iload_n hC dX11_word_123 rfl rfl ?_
    refine r_iload_n hC dX11_word_124 rfl rfl ?_
    refine r_iload hC dX11_word_125 rfl ?_
    refine r_iload hC dX11_word_127 rfl ?_
    refine r_callV hC (d_Words_addWord hw) rfl kC9_addWord km11_261 kI9_addWord kS9_addWord kN9 dd_9_addWord ⟨Nat.le_of_ble_eq_true rfl, Nat.le_of_ble_eq_true rfl⟩ rfl (Nat.le_of_ble_eq_true rfl) dX11_word_129 (fun r M' hp => ?_)
    obtain ⟨a8, rfl, hw⟩ := hp
    try dsimp only at hw
    exact hQ _ _ _ _ dX11_word_132 hw
  · have hw := hwf c5
    refine r_sipush hC dX11_word_107 (by decide) ?_
    exact hQ _ _ _ _ dX11_word_110 hw
def w_S_word_j0 (Q : Int → Mem → Prop) (x1 : Int) (x2 : Int) (x3 : Int) (x4 : Int) (x5 : Int) (M : Mem) : Prop :=
  (-2147483648 ≤ x2 ∧ x2 ≤ 2147483647) ∧ ((¬ (x2 = 2) → w_S_word_j1 Q x1 x2 x3 x4 x5 M) ∧ (x2 = 2 → w_S_beyond M x4 0 100 (fun a4 => (-2147483648 ≤ a4 ∧ a4 ≤ 2147483647) ∧ ((¬ (a4 = 0) → Q (-1002) M) ∧ (a4 = 0 → w_S_beyond M x5 x4 100 (fun a8 => (-2147483648 ≤ a8 ∧ a8 ≤ 2147483647) ∧ ((a8 = 0 → w_S_word_j1 Q x1 x2 x3 x4 x5 M) ∧ (¬ (a8 = 0) → Q (-1002) M))))))))
set_option maxRecDepth 100000 in
set_option maxHeartbeats 4000000 in
theorem s_S_word_j0 {Q : Int → Mem → Prop} {x1 : Int} {x2 : Int} {x3 : Int} {x4 : Int} {x5 : Int} {M : Mem} (hC : rC p R s m args meth c cells slots D aC ad 6 cX11_word RX11 2 43 (some .int)) (hQ : ∀ (pc : Nat) (L : List (Nat × RV)) (z : Int) (M : Mem), decode cX11_word pc = .ok (.ireturn, 1) → Q z M → rG p l e R s m args below meth c cells slots Qs D aC ad 6 pc L [vI z] M) (hw : w_S_word_j0 Q x1 x2 x3 x4 x5 M) : rG p l e R s m args below meth c cells slots Qs D aC ad 6 63 [(0, vR 0), (1, vI x1), (2, vI x2), (3, vI x3), (4, vI x4), (5, vI x5)] [] M := by
  unfold w_S_word_j0 at hw
  refine r_iload_n hC dX11_word_63 rfl rfl ?_
  refine r_iconst hC dX11_word_64 ?_
  obtain ⟨o1, hw⟩ := hw
  obtain ⟨hwt, hwf⟩ := hw
  refine r_icmp_ne hC 95 dX11_word_65 (by decide) o1.1 o1.2 (by decide) (by decide) (fun c3 => ?_) (fun c3 => ?_)
  · have hw := hwt c3
    exact r_subk (s_S_word_j1 hC hQ hw) ⟨rfl, rfl, rfl, rfl, rfl, rfl, trivial⟩
  · have hw := hwf c3
    refine r_iload hC dX11_word_68 rfl ?_
    refine r_iconst hC dX11_word_70 ?_
    refine r_bipush hC dX11_word_71 (by decide) ?_
    refine r_callS hC (d_S_beyond hw) kC11_beyond km11_86 kT11_beyond kN11 dd_11_beyond ⟨Nat.le_of_ble_eq_true rfl, Nat.le_of_ble_eq_true rfl⟩ rfl (Nat.le_of_ble_eq_true rfl) dX11_word_73 (fun r M' hp => ?_)
    obtain ⟨rfl, a4, rfl, hw⟩ := hp
    try dsimp only at hw
    obtain ⟨o5, hw⟩ := hw
    obtain ⟨hwt, hwf⟩ := hw
    refine r_if_ne hC 91 dX11_word_76 (by decide) o5.1 o5.2 (fun c7 => ?_) (fun c7 => ?_)
    · have hw := hwt c7
      refine r_sipush hC dX11_word_91 (by decide) ?_
      exact hQ _ _ _ _ dX11_word_94 hw
    · have hw := hwf c7
      refine r_iload hC dX11_word_79 rfl ?_
      refine r_iload hC dX11_word_81 rfl ?_
      refine r_bipush hC dX11_word_83 (by decide) ?_
      refine r_callS hC (d_S_beyond hw) kC11_beyond km11_86 kT11_beyond kN11 dd_11_beyond ⟨Nat.le_of_ble_eq_true rfl, Nat.le_of_ble_eq_true rfl⟩ rfl (Nat.le_of_ble_eq_true rfl) dX11_word_85 (fun r M' hp => ?_)
      obtain ⟨rfl, a8, rfl, hw⟩ := hp
      try dsimp only at hw
      obtain ⟨o9, hw⟩ := hw
      obtain ⟨hwt, hwf⟩ := hw
      refine r_if_eq hC 95 dX11_word_88 (by decide) o9.1 o9.2 (fun c11 => ?_) (fun c11 => ?_)
      · have hw := hwt c11
        exact r_subk (s_S_word_j1 hC hQ hw) ⟨rfl, rfl, rfl, rfl, rfl, rfl, trivial⟩
      · have hw := hwf c11
        refine r_sipush hC dX11_word_91 (by decide) ?_
        exact hQ _ _ _ _ dX11_word_94 hw
def w_S_word (M : Mem) (x1 : Int) (x2 : Int) (x3 : Int) (x4 : Int) (x5 : Int) (Q : Int → Mem → Prop) : Prop :=
  w_S_beyond M x2 0 2 (fun a1 => (-2147483648 ≤ a1 ∧ a1 ≤ 2147483647) ∧ ((a1 = 0 → w_Ground_hasColumn M x1 (fun a5 => (-2147483648 ≤ a5 ∧ a5 ≤ 2147483647) ∧ ((¬ (a5 = 0) → (-2147483648 ≤ x2 ∧ x2 ≤ 2147483647) ∧ ((¬ (x2 = 2) → w_Shakes_hasShake M x3 (fun a12 => (-2147483648 ≤ a12 ∧ a12 ≤ 2147483647) ∧ ((¬ (a12 = 0) → w_S_word_j0 Q x1 x2 x3 x4 x5 M) ∧ (a12 = 0 → Q (-1001) M)))) ∧ (x2 = 2 → w_Ground_hasLayer M x1 x3 (fun a16 => (-2147483648 ≤ a16 ∧ a16 ≤ 2147483647) ∧ ((¬ (a16 = 0) → w_S_word_j0 Q x1 x2 x3 x4 x5 M) ∧ (a16 = 0 → Q (-1001) M)))))) ∧ (a5 = 0 → Q (-1001) M)))) ∧ (¬ (a1 = 0) → Q (-1002) M)))
set_option maxRecDepth 100000 in
set_option maxHeartbeats 4000000 in
theorem s_S_word {M : Mem} {x1 : Int} {x2 : Int} {x3 : Int} {x4 : Int} {x5 : Int} {Q : Int → Mem → Prop} (hC : rC p R s m args meth c cells slots D aC ad 6 cX11_word RX11 2 43 (some .int)) (hQ : ∀ (pc : Nat) (L : List (Nat × RV)) (z : Int) (M : Mem), decode cX11_word pc = .ok (.ireturn, 1) → Q z M → rG p l e R s m args below meth c cells slots Qs D aC ad 6 pc L [vI z] M) (hw : w_S_word M x1 x2 x3 x4 x5 Q) : rG p l e R s m args below meth c cells slots Qs D aC ad 6 0 [(0, vR 0), (1, vI x1), (2, vI x2), (3, vI x3), (4, vI x4), (5, vI x5)] [] M := by
  unfold w_S_word at hw
  refine r_iload_n hC dX11_word_0 rfl rfl ?_
  refine r_iconst hC dX11_word_1 ?_
  refine r_iconst hC dX11_word_2 ?_
  refine r_callS hC (d_S_beyond hw) kC11_beyond km11_86 kT11_beyond kN11 dd_11_beyond ⟨Nat.le_of_ble_eq_true rfl, Nat.le_of_ble_eq_true rfl⟩ rfl (Nat.le_of_ble_eq_true rfl) dX11_word_3 (fun r M' hp => ?_)
  obtain ⟨rfl, a1, rfl, hw⟩ := hp
  try dsimp only at hw
  obtain ⟨o2, hw⟩ := hw
  obtain ⟨hwt, hwf⟩ := hw
  refine r_if_eq hC 13 dX11_word_6 (by decide) o2.1 o2.2 (fun c4 => ?_) (fun c4 => ?_)
  · have hw := hwt c4
    refine r_aload_n hC dX11_word_13 rfl rfl ?_
    refine r_getR hC 1 rfl (by decide) kf11_20 rfl rfl dX11_word_14 ?_
    refine r_iload_n hC dX11_word_17 rfl rfl ?_
    refine r_callV hC (d_Ground_hasColumn hw) rfl kC0_hasColumn km11_80 kI0_hasColumn kS0_hasColumn kN0 dd_0_hasColumn ⟨Nat.le_of_ble_eq_true rfl, Nat.le_of_ble_eq_true rfl⟩ rfl (Nat.le_of_ble_eq_true rfl) dX11_word_18 (fun r M' hp => ?_)
    obtain ⟨rfl, a5, rfl, hw⟩ := hp
    try dsimp only at hw
    obtain ⟨o6, hw⟩ := hw
    obtain ⟨hwt, hwf⟩ := hw
    refine r_if_ne hC 28 dX11_word_21 (by decide) o6.1 o6.2 (fun c8 => ?_) (fun c8 => ?_)
    · have hw := hwt c8
      refine r_iload_n hC dX11_word_28 rfl rfl ?_
      refine r_iconst hC dX11_word_29 ?_
      obtain ⟨o9, hw⟩ := hw
      obtain ⟨hwt, hwf⟩ := hw
      refine r_icmp_ne hC 48 dX11_word_30 (by decide) o9.1 o9.2 (by decide) (by decide) (fun c11 => ?_) (fun c11 => ?_)
      · have hw := hwt c11
        refine r_aload_n hC dX11_word_48 rfl rfl ?_
        refine r_getR hC 2 rfl (by decide) kf11_25 rfl rfl dX11_word_49 ?_
        refine r_iload_n hC dX11_word_52 rfl rfl ?_
        refine r_callV hC (d_Shakes_hasShake hw) rfl kC4_hasShake km11_147 kI4_hasShake kS4_hasShake kN4 dd_4_hasShake ⟨Nat.le_of_ble_eq_true rfl, Nat.le_of_ble_eq_true rfl⟩ rfl (Nat.le_of_ble_eq_true rfl) dX11_word_53 (fun r M' hp => ?_)
        obtain ⟨rfl, a12, rfl, hw⟩ := hp
        try dsimp only at hw
        obtain ⟨o13, hw⟩ := hw
        obtain ⟨hwt, hwf⟩ := hw
        refine r_if_ne hC 63 dX11_word_56 (by decide) o13.1 o13.2 (fun c15 => ?_) (fun c15 => ?_)
        · have hw := hwt c15
          exact r_subk (s_S_word_j0 hC hQ hw) ⟨rfl, rfl, rfl, rfl, rfl, rfl, trivial⟩
        · have hw := hwf c15
          refine r_sipush hC dX11_word_59 (by decide) ?_
          exact hQ _ _ _ _ dX11_word_62 hw
      · have hw := hwf c11
        refine r_aload_n hC dX11_word_33 rfl rfl ?_
        refine r_getR hC 1 rfl (by decide) kf11_20 rfl rfl dX11_word_34 ?_
        refine r_iload_n hC dX11_word_37 rfl rfl ?_
        refine r_iload_n hC dX11_word_38 rfl rfl ?_
        refine r_callV hC (d_Ground_hasLayer hw) rfl kC0_hasLayer km11_107 kI0_hasLayer kS0_hasLayer kN0 dd_0_hasLayer ⟨Nat.le_of_ble_eq_true rfl, Nat.le_of_ble_eq_true rfl⟩ rfl (Nat.le_of_ble_eq_true rfl) dX11_word_39 (fun r M' hp => ?_)
        obtain ⟨rfl, a16, rfl, hw⟩ := hp
        try dsimp only at hw
        obtain ⟨o17, hw⟩ := hw
        obtain ⟨hwt, hwf⟩ := hw
        refine r_if_ne hC 63 dX11_word_42 (by decide) o17.1 o17.2 (fun c19 => ?_) (fun c19 => ?_)
        · have hw := hwt c19
          exact r_subk (s_S_word_j0 hC hQ hw) ⟨rfl, rfl, rfl, rfl, rfl, rfl, trivial⟩
        · have hw := hwf c19
          refine r_goto hC 59 dX11_word_45 (by decide) ?_
          refine r_sipush hC dX11_word_59 (by decide) ?_
          exact hQ _ _ _ _ dX11_word_62 hw
    · have hw := hwf c8
      refine r_sipush hC dX11_word_24 (by decide) ?_
      exact hQ _ _ _ _ dX11_word_27 hw
  · have hw := hwf c4
    refine r_sipush hC dX11_word_9 (by decide) ?_
    exact hQ _ _ _ _ dX11_word_12 hw
set_option maxRecDepth 100000 in
set_option maxHeartbeats 4000000 in
theorem d_S_word {l : Launch} {D : va_G} {aC : Nat → ClassId} {ad : Nat → Nat} {M : Mem} {x1 : Int} {x2 : Int} {x3 : Int} {x4 : Int} {x5 : Int} {Q : Int → Mem → Prop} (hw : w_S_word M x1 x2 x3 x4 x5 Q) : Does l D aC ad yX11_word cX11_word 6 (some .int) 2 43 [vR 0, vI x1, vI x2, vI x3, vI x4, vI x5] M (pI Q) :=
  Does.of (by decide) (Nat.le_of_ble_eq_true rfl) (fun p e R s m args below meth c hC => r_subk (s_S_word hC (fun pc L z M d h => r_iret hC d ⟨z, rfl, h⟩) hw) ⟨rfl, rfl, rfl, rfl, rfl, rfl, trivial⟩)
/-- SoupSand$Words.hasWord -/
def w_Words_hasWord (M : Mem) (x1 : Int) (Q : Int → Prop) : Prop :=
  (-2147483648 ≤ x1 ∧ x1 ≤ 2147483647) ∧ ((x1 < 0 → Q 0) ∧ (¬ (x1 < 0) → ∀ a5 : Int, a5 = M 5 5 → 0 ≤ a5 → a5 ≤ 16 → (-2147483648 ≤ x1 ∧ x1 ≤ 2147483647) ∧ ((a5 ≤ x1 → Q 0) ∧ (¬ (a5 ≤ x1) → Q 1))))
set_option maxRecDepth 100000 in
set_option maxHeartbeats 4000000 in
theorem s_Words_hasWord {M : Mem} {x1 : Int} {Q : Int → Prop} (hC : rC p R s m args meth c cells slots D aC ad 2 cX9_hasWord RX9 0 0 (some .boolean)) (hQ : ∀ (pc : Nat) (L : List (Nat × RV)) (z : Int), decode cX9_hasWord pc = .ok (.ireturn, 1) → 0 ≤ z → z ≤ 1 → Q z → rG p l e R s m args below meth c cells slots Qs D aC ad 2 pc L [vI z] M) (hw : w_Words_hasWord M x1 Q) : rG p l e R s m args below meth c cells slots Qs D aC ad 2 0 [(0, vR 5), (1, vI x1)] [] M := by
  unfold w_Words_hasWord at hw
  refine r_iload_n hC dX9_hasWord_0 rfl rfl ?_
  obtain ⟨o1, hw⟩ := hw
  obtain ⟨hwt, hwf⟩ := hw
  refine r_if_lt hC 16 dX9_hasWord_1 (by decide) o1.1 o1.2 (fun c3 => ?_) (fun c3 => ?_)
  · have hw := hwt c3
    refine r_iconst hC dX9_hasWord_16 ?_
    exact hQ _ _ _ dX9_hasWord_17 (by decide) (by decide) hw
  · have hw := hwf c3
    refine r_iload_n hC dX9_hasWord_4 rfl rfl ?_
    refine r_aload_n hC dX9_hasWord_5 rfl rfl ?_
    refine r_getI hC 5 rfl (by decide) kf9_33 rfl rfl dX9_hasWord_6 (fun b6 b6' => ?_)
    replace hw := hw _ rfl b6 b6'
    obtain ⟨o7, hw⟩ := hw
    obtain ⟨hwt, hwf⟩ := hw
    refine r_icmp_ge hC 16 dX9_hasWord_9 (by decide) o7.1 o7.2 (by omega) (by omega) (fun c9 => ?_) (fun c9 => ?_)
    · have hw := hwt c9
      refine r_iconst hC dX9_hasWord_16 ?_
      exact hQ _ _ _ dX9_hasWord_17 (by decide) (by decide) hw
    · have hw := hwf c9
      refine r_iconst hC dX9_hasWord_12 ?_
      refine r_goto hC 17 dX9_hasWord_13 (by decide) ?_
      exact hQ _ _ _ dX9_hasWord_17 (by decide) (by decide) hw
set_option maxRecDepth 100000 in
set_option maxHeartbeats 4000000 in
theorem d_Words_hasWord {l : Launch} {D : va_G} {aC : Nat → ClassId} {ad : Nat → Nat} {M : Mem} {x1 : Int} {Q : Int → Prop} (hw : w_Words_hasWord M x1 Q) : Does l D aC ad yX9_hasWord cX9_hasWord 2 (some .boolean) 0 0 [vR 5, vI x1] M (qI M Q) :=
  Does.of (by decide) (Nat.le_of_ble_eq_true rfl) (fun p e R s m args below meth c hC => r_subk (s_Words_hasWord hC (fun pc L z d z1 z2 h => r_zret hC d z1 z2 ⟨rfl, ⟨z, rfl, h⟩⟩) hw) ⟨rfl, rfl, trivial⟩)
theorem dd_9_hasWord : yX9_hasWord.cls ≠ "java/lang/invoke/MethodHandle" ∧ yX9_hasWord.cls ≠ "java/lang/invoke/VarHandle" ∧ (parseMethodDescriptor yX9_hasWord.desc).map (fun d => d.parameters.length) = some 1 := by decide +kernel
/-- SoupSand.strike -/
def w_S_strike_j0 (Q : Int → Mem → Prop) (x3 : Int) (s1 : Int) (M : Mem) : Prop :=
  (0 ≤ s1 ∧ s1 ≤ 65535) ∧ (∀ M2 : Mem, M2 = mset M 5 6 s1 → Q x3 M2)
set_option maxRecDepth 100000 in
set_option maxHeartbeats 4000000 in
theorem s_S_strike_j0 {Q : Int → Mem → Prop} {x3 : Int} {s1 : Int} {M : Mem} (hC : rC p R s m args meth c cells slots D aC ad 4 cX11_strike RX11 1 21 (some .int)) (hQ : ∀ (pc : Nat) (L : List (Nat × RV)) (z : Int) (M : Mem), decode cX11_strike pc = .ok (.ireturn, 1) → Q z M → rG p l e R s m args below meth c cells slots Qs D aC ad 4 pc L [vI z] M) (hw : w_S_strike_j0 Q x3 s1 M) : rG p l e R s m args below meth c cells slots Qs D aC ad 4 62 [(3, vI x3)] [vI s1, vR 5] M := by
  unfold w_S_strike_j0 at hw
  obtain ⟨o1, hw⟩ := hw
  refine r_putI hC 6 rfl (by decide) kf11_161 rfl rfl o1.1 o1.2 dX11_strike_62 ?_
  replace hw := hw _ rfl
  refine r_iload_n hC dX11_strike_65 rfl rfl ?_
  exact hQ _ _ _ _ dX11_strike_66 hw
def w_S_strike (M : Mem) (x1 : Int) (x2 : Int) (Q : Int → Mem → Prop) : Prop :=
  w_Words_hasWord M x1 (fun a1 => (-2147483648 ≤ a1 ∧ a1 ≤ 2147483647) ∧ ((¬ (a1 = 0) → ∀ a5 : Int, a5 = M 5 6 → 0 ≤ a5 → a5 ≤ 65535 → (-2147483648 ≤ x2 ∧ x2 ≤ 2147483647) ∧ ((x2 = 0 → ∀ a10 : Int, a10 = M 5 6 → 0 ≤ a10 → a10 ≤ 65535 → w_S_strike_j0 Q (bAnd (bShr a5 x1) 1) (bAnd a10 (bXor (bShl 1 x1) (-1))) M) ∧ (¬ (x2 = 0) → ∀ a12 : Int, a12 = M 5 6 → 0 ≤ a12 → a12 ≤ 65535 → w_S_strike_j0 Q (bAnd (bShr a5 x1) 1) (bOr a12 (bShl 1 x1)) M))) ∧ (a1 = 0 → Q (-1001) M)))
set_option maxRecDepth 100000 in
set_option maxHeartbeats 4000000 in
theorem s_S_strike {M : Mem} {x1 : Int} {x2 : Int} {Q : Int → Mem → Prop} (hC : rC p R s m args meth c cells slots D aC ad 4 cX11_strike RX11 1 21 (some .int)) (hQ : ∀ (pc : Nat) (L : List (Nat × RV)) (z : Int) (M : Mem), decode cX11_strike pc = .ok (.ireturn, 1) → Q z M → rG p l e R s m args below meth c cells slots Qs D aC ad 4 pc L [vI z] M) (hw : w_S_strike M x1 x2 Q) : rG p l e R s m args below meth c cells slots Qs D aC ad 4 0 [(0, vR 0), (1, vI x1), (2, vI x2)] [] M := by
  unfold w_S_strike at hw
  refine r_aload_n hC dX11_strike_0 rfl rfl ?_
  refine r_getR hC 4 rfl (by decide) kf11_34 rfl rfl dX11_strike_1 ?_
  refine r_iload_n hC dX11_strike_4 rfl rfl ?_
  refine r_callV hC (d_Words_hasWord hw) rfl kC9_hasWord km11_265 kI9_hasWord kS9_hasWord kN9 dd_9_hasWord ⟨Nat.le_of_ble_eq_true rfl, Nat.le_of_ble_eq_true rfl⟩ rfl (Nat.le_of_ble_eq_true rfl) dX11_strike_5 (fun r M' hp => ?_)
  obtain ⟨rfl, a1, rfl, hw⟩ := hp
  try dsimp only at hw
  obtain ⟨o2, hw⟩ := hw
  obtain ⟨hwt, hwf⟩ := hw
  refine r_if_ne hC 15 dX11_strike_8 (by decide) o2.1 o2.2 (fun c4 => ?_) (fun c4 => ?_)
  · have hw := hwt c4
    refine r_aload_n hC dX11_strike_15 rfl rfl ?_
    refine r_getR hC 4 rfl (by decide) kf11_34 rfl rfl dX11_strike_16 ?_
    refine r_getI hC 6 rfl (by decide) kf11_161 rfl rfl dX11_strike_19 (fun b6 b6' => ?_)
    replace hw := hw _ rfl b6 b6'
    refine r_iload_n hC dX11_strike_22 rfl rfl ?_
    refine r_ishr hC dX11_strike_23 ?_
    refine r_iconst hC dX11_strike_24 ?_
    refine r_iand hC dX11_strike_25 ?_
    refine r_istore_n hC dX11_strike_26 rfl (by decide) ?_
    refine r_aload_n hC dX11_strike_27 rfl rfl ?_
    refine r_getR hC 4 rfl (by decide) kf11_34 rfl rfl dX11_strike_28 ?_
    refine r_iload_n hC dX11_strike_31 rfl rfl ?_
    obtain ⟨o7, hw⟩ := hw
    obtain ⟨hwt, hwf⟩ := hw
    refine r_if_eq hC 49 dX11_strike_32 (by decide) o7.1 o7.2 (fun c9 => ?_) (fun c9 => ?_)
    · have hw := hwt c9
      refine r_aload_n hC dX11_strike_49 rfl rfl ?_
      refine r_getR hC 4 rfl (by decide) kf11_34 rfl rfl dX11_strike_50 ?_
      refine r_getI hC 6 rfl (by decide) kf11_161 rfl rfl dX11_strike_53 (fun b11 b11' => ?_)
      replace hw := hw _ rfl b11 b11'
      refine r_iconst hC dX11_strike_56 ?_
      refine r_iload_n hC dX11_strike_57 rfl rfl ?_
      refine r_ishl hC dX11_strike_58 ?_
      refine r_iconst hC dX11_strike_59 ?_
      refine r_ixor hC dX11_strike_60 ?_
      refine r_iand hC dX11_strike_61 ?_
      exact r_subk (s_S_strike_j0 hC hQ hw) ⟨rfl, trivial⟩
    · have hw := hwf c9
      refine r_aload_n hC dX11_strike_35 rfl rfl ?_
      refine r_getR hC 4 rfl (by decide) kf11_34 rfl rfl dX11_strike_36 ?_
      refine r_getI hC 6 rfl (by decide) kf11_161 rfl rfl dX11_strike_39 (fun b13 b13' => ?_)
      replace hw := hw _ rfl b13 b13'
      refine r_iconst hC dX11_strike_42 ?_
      refine r_iload_n hC dX11_strike_43 rfl rfl ?_
      refine r_ishl hC dX11_strike_44 ?_
      refine r_ior hC dX11_strike_45 ?_
      refine r_goto hC 62 dX11_strike_46 (by decide) ?_
      exact r_subk (s_S_strike_j0 hC hQ hw) ⟨rfl, trivial⟩
  · have hw := hwf c4
    refine r_sipush hC dX11_strike_11 (by decide) ?_
    exact hQ _ _ _ _ dX11_strike_14 hw
set_option maxRecDepth 100000 in
set_option maxHeartbeats 4000000 in
theorem d_S_strike {l : Launch} {D : va_G} {aC : Nat → ClassId} {ad : Nat → Nat} {M : Mem} {x1 : Int} {x2 : Int} {Q : Int → Mem → Prop} (hw : w_S_strike M x1 x2 Q) : Does l D aC ad yX11_strike cX11_strike 4 (some .int) 1 21 [vR 0, vI x1, vI x2] M (pI Q) :=
  Does.of (by decide) (Nat.le_of_ble_eq_true rfl) (fun p e R s m args below meth c hC => r_subk (s_S_strike hC (fun pc L z M d h => r_iret hC d ⟨z, rfl, h⟩) hw) ⟨rfl, rfl, rfl, trivial⟩)
/-- SoupSand$Words.countAgainst -/
def w_Words_countAgainst_B0 (Q : Int → Prop) (x1 : Int) (x2 : Int) (M : Mem) (X5 : Int → Int → Prop) (x3 : Int) (x4 : Int) : Prop :=
  (0 ≤ x1 ∧ x1 < 6) ∧ (∀ a2 : Int, a2 = M 36 x1 → 0 ≤ a2 → a2 ≤ 729 → (-2147483648 ≤ x4 ∧ x4 ≤ 2147483647) ∧ ((a2 ≤ x4 → Q x3) ∧ (¬ (a2 ≤ x4) → (0 ≤ (x1 * 729) + x4 ∧ (x1 * 729) + x4 < 4374) ∧ (∀ a8 : Int, a8 = M 37 ((x1 * 729) + x4) → 0 ≤ a8 → a8 ≤ 65535 → X5 (x3 + (bAnd (bShr a8 x2) 1)) (x4 + 1)))))
set_option maxRecDepth 100000 in
set_option maxHeartbeats 4000000 in
theorem s_Words_countAgainst_B0 {Q : Int → Prop} {x1 : Int} {x2 : Int} {M : Mem} {X5 : Int → Int → Prop} {x3 : Int} {x4 : Int} (hC : rC p R s m args meth c cells slots D aC ad 5 cX9_countAgainst RX9 0 0 (some .int)) (hQ : ∀ (pc : Nat) (L : List (Nat × RV)) (z : Int), decode cX9_countAgainst pc = .ok (.ireturn, 1) → Q z → rG p l e R s m args below meth c cells slots Qs D aC ad 5 pc L [vI z] M) (hX5 : ∀ (x3 : Int) (x4 : Int), X5 x3 x4 → rG p l e R s m args below meth c cells slots Qs D aC ad 5 5 [(0, vR 5), (1, vI x1), (2, vI x2), (3, vI x3), (4, vI x4)] [] M) (hw : w_Words_countAgainst_B0 Q x1 x2 M X5 x3 x4) : rG p l e R s m args below meth c cells slots Qs D aC ad 5 5 [(0, vR 5), (1, vI x1), (2, vI x2), (3, vI x3), (4, vI x4)] [] M := by
  unfold w_Words_countAgainst_B0 at hw
  refine r_iload hC dX9_countAgainst_5 rfl ?_
  refine r_aload_n hC dX9_countAgainst_7 rfl rfl ?_
  refine r_getR hC 7 rfl (by decide) kf9_27 rfl rfl dX9_countAgainst_8 ?_
  refine r_iload_n hC dX9_countAgainst_11 rfl rfl ?_
  obtain ⟨o1, hw⟩ := hw
  refine r_iald hC rfl o1.1 o1.2 (by decide) (by decide) dX9_countAgainst_12 (fun b3 b3' => ?_)
  replace hw := hw _ rfl b3 b3'
  obtain ⟨o4, hw⟩ := hw
  obtain ⟨hwt, hwf⟩ := hw
  refine r_icmp_ge hC 42 dX9_countAgainst_13 (by decide) o4.1 o4.2 (by omega) (by omega) (fun c6 => ?_) (fun c6 => ?_)
  · have hw := hwt c6
    refine r_iload_n hC dX9_countAgainst_42 rfl rfl ?_
    exact hQ _ _ _ dX9_countAgainst_43 hw
  · have hw := hwf c6
    refine r_iload_n hC dX9_countAgainst_16 rfl rfl ?_
    refine r_aload_n hC dX9_countAgainst_17 rfl rfl ?_
    refine r_getR hC 8 rfl (by decide) kf9_30 rfl rfl dX9_countAgainst_18 ?_
    refine r_iload_n hC dX9_countAgainst_21 rfl rfl ?_
    refine r_sipush hC dX9_countAgainst_22 (by decide) ?_
    refine r_imul hC dX9_countAgainst_25 ?_
    refine r_iload hC dX9_countAgainst_26 rfl ?_
    refine r_iadd hC dX9_countAgainst_28 ?_
    obtain ⟨o7, hw⟩ := hw
    refine r_iald hC rfl o7.1 o7.2 (by decide) (by decide) dX9_countAgainst_29 (fun b9 b9' => ?_)
    replace hw := hw _ rfl b9 b9'
    refine r_iload_n hC dX9_countAgainst_30 rfl rfl ?_
    refine r_ishr hC dX9_countAgainst_31 ?_
    refine r_iconst hC dX9_countAgainst_32 ?_
    refine r_iand hC dX9_countAgainst_33 ?_
    refine r_iadd hC dX9_countAgainst_34 ?_
    refine r_istore_n hC dX9_countAgainst_35 rfl (by decide) ?_
    refine r_iinc hC dX9_countAgainst_36 rfl (by decide) ?_
    refine r_goto hC 5 dX9_countAgainst_39 (by decide) ?_
    exact r_subk (hX5 _ _ hw) ⟨rfl, rfl, rfl, rfl, rfl, trivial⟩
def w_Words_countAgainst_L0 (Q : Int → Prop) (x1 : Int) (x2 : Int) (M : Mem) (x3 : Int) (x4 : Int) : Prop :=
  ∀ X : Int → Int → Prop, (∀ (x3 : Int) (x4 : Int), w_Words_countAgainst_B0 Q x1 x2 M X x3 x4 → X x3 x4) → X x3 x4
set_option maxRecDepth 100000 in
set_option maxHeartbeats 4000000 in
theorem s_Words_countAgainst_L0 {Q : Int → Prop} {x1 : Int} {x2 : Int} {M : Mem} {x3 : Int} {x4 : Int} (hC : rC p R s m args meth c cells slots D aC ad 5 cX9_countAgainst RX9 0 0 (some .int)) (hQ : ∀ (pc : Nat) (L : List (Nat × RV)) (z : Int), decode cX9_countAgainst pc = .ok (.ireturn, 1) → Q z → rG p l e R s m args below meth c cells slots Qs D aC ad 5 pc L [vI z] M) (hw : w_Words_countAgainst_L0 Q x1 x2 M x3 x4) : rG p l e R s m args below meth c cells slots Qs D aC ad 5 5 [(0, vR 5), (1, vI x1), (2, vI x2), (3, vI x3), (4, vI x4)] [] M := by
  unfold w_Words_countAgainst_L0 at hw
  exact hw (fun x3 x4 => rG p l e R s m args below meth c cells slots Qs D aC ad 5 5 [(0, vR 5), (1, vI x1), (2, vI x2), (3, vI x3), (4, vI x4)] [] M) (fun x3 x4 hb => s_Words_countAgainst_B0 hC hQ (fun _ _ h => h) hb)
def w_Words_countAgainst (M : Mem) (x1 : Int) (x2 : Int) (Q : Int → Prop) : Prop :=
  w_Words_countAgainst_L0 Q x1 x2 M 0 0
set_option maxRecDepth 100000 in
set_option maxHeartbeats 4000000 in
theorem s_Words_countAgainst {M : Mem} {x1 : Int} {x2 : Int} {Q : Int → Prop} (hC : rC p R s m args meth c cells slots D aC ad 5 cX9_countAgainst RX9 0 0 (some .int)) (hQ : ∀ (pc : Nat) (L : List (Nat × RV)) (z : Int), decode cX9_countAgainst pc = .ok (.ireturn, 1) → Q z → rG p l e R s m args below meth c cells slots Qs D aC ad 5 pc L [vI z] M) (hw : w_Words_countAgainst M x1 x2 Q) : rG p l e R s m args below meth c cells slots Qs D aC ad 5 0 [(0, vR 5), (1, vI x1), (2, vI x2)] [] M := by
  unfold w_Words_countAgainst at hw
  refine r_iconst hC dX9_countAgainst_0 ?_
  refine r_istore_n hC dX9_countAgainst_1 rfl (by decide) ?_
  refine r_iconst hC dX9_countAgainst_2 ?_
  refine r_istore hC dX9_countAgainst_3 (by decide) ?_
  exact r_subk (s_Words_countAgainst_L0 hC hQ hw) ⟨rfl, rfl, rfl, rfl, rfl, trivial⟩
set_option maxRecDepth 100000 in
set_option maxHeartbeats 4000000 in
theorem d_Words_countAgainst {l : Launch} {D : va_G} {aC : Nat → ClassId} {ad : Nat → Nat} {M : Mem} {x1 : Int} {x2 : Int} {Q : Int → Prop} (hw : w_Words_countAgainst M x1 x2 Q) : Does l D aC ad yX9_countAgainst cX9_countAgainst 5 (some .int) 0 0 [vR 5, vI x1, vI x2] M (qI M Q) :=
  Does.of (by decide) (Nat.le_of_ble_eq_true rfl) (fun p e R s m args below meth c hC => r_subk (s_Words_countAgainst hC (fun pc L z d h => r_iret hC d ⟨rfl, ⟨z, rfl, h⟩⟩) hw) ⟨rfl, rfl, rfl, trivial⟩)
theorem dd_9_countAgainst : yX9_countAgainst.cls ≠ "java/lang/invoke/MethodHandle" ∧ yX9_countAgainst.cls ≠ "java/lang/invoke/VarHandle" ∧ (parseMethodDescriptor yX9_countAgainst.desc).map (fun d => d.parameters.length) = some 2 := by decide +kernel
/-- SoupSand.bars -/
def w_S_bars (M : Mem) (x1 : Int) (Q : Int → Mem → Prop) : Prop :=
  w_Words_hasWord M x1 (fun a1 => (-2147483648 ≤ a1 ∧ a1 ≤ 2147483647) ∧ ((¬ (a1 = 0) → (0 ≤ x1 ∧ x1 < 16) ∧ (∀ a6 : Int, a6 = M 31 x1 → 0 ≤ a6 → a6 ≤ 5 → w_Words_look M a6 (fun M9 => w_Words_countAgainst M9 a6 x1 (fun a10 => Q a10 M9)))) ∧ (a1 = 0 → Q (-1001) M)))
set_option maxRecDepth 100000 in
set_option maxHeartbeats 4000000 in
theorem s_S_bars {M : Mem} {x1 : Int} {Q : Int → Mem → Prop} (hC : rC p R s m args meth c cells slots D aC ad 3 cX11_bars RX11 5 122 (some .int)) (hQ : ∀ (pc : Nat) (L : List (Nat × RV)) (z : Int) (M : Mem), decode cX11_bars pc = .ok (.ireturn, 1) → Q z M → rG p l e R s m args below meth c cells slots Qs D aC ad 3 pc L [vI z] M) (hw : w_S_bars M x1 Q) : rG p l e R s m args below meth c cells slots Qs D aC ad 3 0 [(0, vR 0), (1, vI x1)] [] M := by
  unfold w_S_bars at hw
  refine r_aload_n hC dX11_bars_0 rfl rfl ?_
  refine r_getR hC 4 rfl (by decide) kf11_34 rfl rfl dX11_bars_1 ?_
  refine r_iload_n hC dX11_bars_4 rfl rfl ?_
  refine r_callV hC (d_Words_hasWord hw) rfl kC9_hasWord km11_265 kI9_hasWord kS9_hasWord kN9 dd_9_hasWord ⟨Nat.le_of_ble_eq_true rfl, Nat.le_of_ble_eq_true rfl⟩ rfl (Nat.le_of_ble_eq_true rfl) dX11_bars_5 (fun r M' hp => ?_)
  obtain ⟨rfl, a1, rfl, hw⟩ := hp
  try dsimp only at hw
  obtain ⟨o2, hw⟩ := hw
  obtain ⟨hwt, hwf⟩ := hw
  refine r_if_ne hC 15 dX11_bars_8 (by decide) o2.1 o2.2 (fun c4 => ?_) (fun c4 => ?_)
  · have hw := hwt c4
    refine r_aload_n hC dX11_bars_15 rfl rfl ?_
    refine r_getR hC 4 rfl (by decide) kf11_34 rfl rfl dX11_bars_16 ?_
    refine r_getR hC 0 rfl (by decide) kf11_268 rfl rfl dX11_bars_19 ?_
    refine r_iload_n hC dX11_bars_22 rfl rfl ?_
    obtain ⟨o5, hw⟩ := hw
    refine r_iald hC rfl o5.1 o5.2 (by decide) (by decide) dX11_bars_23 (fun b7 b7' => ?_)
    replace hw := hw _ rfl b7 b7'
    refine r_istore_n hC dX11_bars_24 rfl (by decide) ?_
    refine r_aload_n hC dX11_bars_25 rfl rfl ?_
    refine r_getR hC 4 rfl (by decide) kf11_34 rfl rfl dX11_bars_26 ?_
    refine r_aload_n hC dX11_bars_29 rfl rfl ?_
    refine r_getR hC 0 rfl (by decide) kf11_10 rfl rfl dX11_bars_30 ?_
    refine r_iload_n hC dX11_bars_33 rfl rfl ?_
    refine r_callV hC (d_Words_look hw) rfl kC9_look km11_188 kI9_look kS9_look kN9 dd_9_look ⟨Nat.le_of_ble_eq_true rfl, Nat.le_of_ble_eq_true rfl⟩ rfl (Nat.le_of_ble_eq_true rfl) dX11_bars_34 (fun r M' hp => ?_)
    obtain ⟨rfl, hw⟩ := hp
    try dsimp only at hw
    refine r_aload_n hC dX11_bars_37 rfl rfl ?_
    refine r_getR hC 4 rfl (by decide) kf11_34 rfl rfl dX11_bars_38 ?_
    refine r_iload_n hC dX11_bars_41 rfl rfl ?_
    refine r_iload_n hC dX11_bars_42 rfl rfl ?_
    refine r_callV hC (d_Words_countAgainst hw) rfl kC9_countAgainst km11_271 kI9_countAgainst kS9_countAgainst kN9 dd_9_countAgainst ⟨Nat.le_of_ble_eq_true rfl, Nat.le_of_ble_eq_true rfl⟩ rfl (Nat.le_of_ble_eq_true rfl) dX11_bars_43 (fun r M' hp => ?_)
    obtain ⟨rfl, a10, rfl, hw⟩ := hp
    try dsimp only at hw
    exact hQ _ _ _ _ dX11_bars_46 hw
  · have hw := hwf c4
    refine r_sipush hC dX11_bars_11 (by decide) ?_
    exact hQ _ _ _ _ dX11_bars_14 hw
set_option maxRecDepth 100000 in
set_option maxHeartbeats 4000000 in
theorem d_S_bars {l : Launch} {D : va_G} {aC : Nat → ClassId} {ad : Nat → Nat} {M : Mem} {x1 : Int} {Q : Int → Mem → Prop} (hw : w_S_bars M x1 Q) : Does l D aC ad yX11_bars cX11_bars 3 (some .int) 5 122 [vR 0, vI x1] M (pI Q) :=
  Does.of (by decide) (Nat.le_of_ble_eq_true rfl) (fun p e R s m args below meth c hC => r_subk (s_S_bars hC (fun pc L z M d h => r_iret hC d ⟨z, rfl, h⟩) hw) ⟨rfl, rfl, trivial⟩)
/-- SoupSand$Words.fewestAgainst -/
def w_Words_fewestAgainst_B0 (Q : Int → Prop) (x1 : Int) (M : Mem) (X20 : Int → Int → Prop) (x2 : Int) (x3 : Int) : Prop :=
  (0 ≤ x1 ∧ x1 < 6) ∧ (∀ a2 : Int, a2 = M 36 x1 → 0 ≤ a2 → a2 ≤ 729 → (-2147483648 ≤ x3 ∧ x3 ≤ 2147483647) ∧ ((a2 ≤ x3 → Q x2) ∧ (¬ (a2 ≤ x3) → (0 ≤ (x1 * 729) + x3 ∧ (x1 * 729) + x3 < 4374) ∧ (∀ a8 : Int, a8 = M 37 ((x1 * 729) + x3) → 0 ≤ a8 → a8 ≤ 65535 → ∀ a10 : Int, a10 = M 5 6 → 0 ≤ a10 → a10 ≤ 65535 → w_bitCount x2 (fun a12 => w_bitCount (bAnd a8 (bXor a10 (-1))) (fun a13 => (-2147483648 ≤ a12 - a13 ∧ a12 - a13 ≤ 2147483647) ∧ ((0 < a12 - a13 → X20 (bAnd a8 (bXor a10 (-1))) (x3 + 1)) ∧ (¬ (0 < a12 - a13) → (-2147483648 ≤ a12 - a13 ∧ a12 - a13 ≤ 2147483647) ∧ ((¬ (a12 - a13 = 0) → X20 x2 (x3 + 1)) ∧ (a12 - a13 = 0 → (-2147483648 ≤ bAnd a8 (bXor a10 (-1)) ∧ bAnd a8 (bXor a10 (-1)) ≤ 2147483647) ∧ ((-2147483648 ≤ x2 ∧ x2 ≤ 2147483647) ∧ ((x2 ≤ bAnd a8 (bXor a10 (-1)) → X20 x2 (x3 + 1)) ∧ (¬ (x2 ≤ bAnd a8 (bXor a10 (-1))) → X20 (bAnd a8 (bXor a10 (-1))) (x3 + 1))))))))))))))
set_option maxRecDepth 100000 in
set_option maxHeartbeats 4000000 in
theorem s_Words_fewestAgainst_B0 {Q : Int → Prop} {x1 : Int} {M : Mem} {X20 : Int → Int → Prop} {x2 : Int} {x3 : Int} (hC : rC p R s m args meth c cells slots D aC ad 6 cX9_fewestAgainst RX9 1 20 (some .int)) (hQ : ∀ (pc : Nat) (L : List (Nat × RV)) (z : Int), decode cX9_fewestAgainst pc = .ok (.ireturn, 1) → Q z → rG p l e R s m args below meth c cells slots Qs D aC ad 6 pc L [vI z] M) (hX20 : ∀ (x2 : Int) (x3 : Int), X20 x2 x3 → rG p l e R s m args below meth c cells slots Qs D aC ad 6 20 [(0, vR 5), (1, vI x1), (2, vI x2), (3, vI x3)] [] M) (hw : w_Words_fewestAgainst_B0 Q x1 M X20 x2 x3) : rG p l e R s m args below meth c cells slots Qs D aC ad 6 20 [(0, vR 5), (1, vI x1), (2, vI x2), (3, vI x3)] [] M := by
  unfold w_Words_fewestAgainst_B0 at hw
  refine r_iload_n hC dX9_fewestAgainst_20 rfl rfl ?_
  refine r_aload_n hC dX9_fewestAgainst_21 rfl rfl ?_
  refine r_getR hC 7 rfl (by decide) kf9_27 rfl rfl dX9_fewestAgainst_22 ?_
  refine r_iload_n hC dX9_fewestAgainst_25 rfl rfl ?_
  obtain ⟨o1, hw⟩ := hw
  refine r_iald hC rfl o1.1 o1.2 (by decide) (by decide) dX9_fewestAgainst_26 (fun b3 b3' => ?_)
  replace hw := hw _ rfl b3 b3'
  obtain ⟨o4, hw⟩ := hw
  obtain ⟨hwt, hwf⟩ := hw
  refine r_icmp_ge hC 88 dX9_fewestAgainst_27 (by decide) o4.1 o4.2 (by omega) (by omega) (fun c6 => ?_) (fun c6 => ?_)
  · have hw := hwt c6
    refine r_iload_n hC dX9_fewestAgainst_88 rfl rfl ?_
    exact hQ _ _ _ dX9_fewestAgainst_89 hw
  · have hw := hwf c6
    refine r_aload_n hC dX9_fewestAgainst_30 rfl rfl ?_
    refine r_getR hC 8 rfl (by decide) kf9_30 rfl rfl dX9_fewestAgainst_31 ?_
    refine r_iload_n hC dX9_fewestAgainst_34 rfl rfl ?_
    refine r_sipush hC dX9_fewestAgainst_35 (by decide) ?_
    refine r_imul hC dX9_fewestAgainst_38 ?_
    refine r_iload_n hC dX9_fewestAgainst_39 rfl rfl ?_
    refine r_iadd hC dX9_fewestAgainst_40 ?_
    obtain ⟨o7, hw⟩ := hw
    refine r_iald hC rfl o7.1 o7.2 (by decide) (by decide) dX9_fewestAgainst_41 (fun b9 b9' => ?_)
    replace hw := hw _ rfl b9 b9'
    refine r_aload_n hC dX9_fewestAgainst_42 rfl rfl ?_
    refine r_getI hC 6 rfl (by decide) kf9_100 rfl rfl dX9_fewestAgainst_43 (fun b11 b11' => ?_)
    replace hw := hw _ rfl b11 b11'
    refine r_iconst hC dX9_fewestAgainst_46 ?_
    refine r_ixor hC dX9_fewestAgainst_47 ?_
    refine r_iand hC dX9_fewestAgainst_48 ?_
    refine r_istore hC dX9_fewestAgainst_49 (by decide) ?_
    refine r_iload_n hC dX9_fewestAgainst_51 rfl rfl ?_
    refine r_bits hC km9_107 (by decide) (Nat.le_of_ble_eq_true rfl) dX9_fewestAgainst_52 hw (fun a12 hw => ?_)
    refine r_iload hC dX9_fewestAgainst_55 rfl ?_
    refine r_bits hC km9_107 (by decide) (Nat.le_of_ble_eq_true rfl) dX9_fewestAgainst_57 hw (fun a13 hw => ?_)
    refine r_isub hC dX9_fewestAgainst_60 ?_
    refine r_istore hC dX9_fewestAgainst_61 (by decide) ?_
    refine r_iload hC dX9_fewestAgainst_63 rfl ?_
    obtain ⟨o14, hw⟩ := hw
    obtain ⟨hwt, hwf⟩ := hw
    refine r_if_gt hC 79 dX9_fewestAgainst_65 (by decide) o14.1 o14.2 (fun c16 => ?_) (fun c16 => ?_)
    · have hw := hwt c16
      refine r_iload hC dX9_fewestAgainst_79 rfl ?_
      refine r_istore_n hC dX9_fewestAgainst_81 rfl (by decide) ?_
      refine r_iinc hC dX9_fewestAgainst_82 rfl (by decide) ?_
      refine r_goto hC 20 dX9_fewestAgainst_85 (by decide) ?_
      exact r_subk (hX20 _ _ hw) ⟨rfl, rfl, rfl, rfl, trivial⟩
    · have hw := hwf c16
      refine r_iload hC dX9_fewestAgainst_68 rfl ?_
      obtain ⟨o17, hw⟩ := hw
      obtain ⟨hwt, hwf⟩ := hw
      refine r_if_ne hC 82 dX9_fewestAgainst_70 (by decide) o17.1 o17.2 (fun c19 => ?_) (fun c19 => ?_)
      · have hw := hwt c19
        refine r_iinc hC dX9_fewestAgainst_82 rfl (by decide) ?_
        refine r_goto hC 20 dX9_fewestAgainst_85 (by decide) ?_
        exact r_subk (hX20 _ _ hw) ⟨rfl, rfl, rfl, rfl, trivial⟩
      · have hw := hwf c19
        refine r_iload hC dX9_fewestAgainst_73 rfl ?_
        refine r_iload_n hC dX9_fewestAgainst_75 rfl rfl ?_
        obtain ⟨o20, hw⟩ := hw
        obtain ⟨o21, hw⟩ := hw
        obtain ⟨hwt, hwf⟩ := hw
        refine r_icmp_ge hC 82 dX9_fewestAgainst_76 (by decide) o20.1 o20.2 o21.1 o21.2 (fun c22 => ?_) (fun c22 => ?_)
        · have hw := hwt c22
          refine r_iinc hC dX9_fewestAgainst_82 rfl (by decide) ?_
          refine r_goto hC 20 dX9_fewestAgainst_85 (by decide) ?_
          exact r_subk (hX20 _ _ hw) ⟨rfl, rfl, rfl, rfl, trivial⟩
        · have hw := hwf c22
          refine r_iload hC dX9_fewestAgainst_79 rfl ?_
          refine r_istore_n hC dX9_fewestAgainst_81 rfl (by decide) ?_
          refine r_iinc hC dX9_fewestAgainst_82 rfl (by decide) ?_
          refine r_goto hC 20 dX9_fewestAgainst_85 (by decide) ?_
          exact r_subk (hX20 _ _ hw) ⟨rfl, rfl, rfl, rfl, trivial⟩
def w_Words_fewestAgainst_L0 (Q : Int → Prop) (x1 : Int) (M : Mem) (x2 : Int) (x3 : Int) : Prop :=
  ∀ X : Int → Int → Prop, (∀ (x2 : Int) (x3 : Int), w_Words_fewestAgainst_B0 Q x1 M X x2 x3 → X x2 x3) → X x2 x3
set_option maxRecDepth 100000 in
set_option maxHeartbeats 4000000 in
theorem s_Words_fewestAgainst_L0 {Q : Int → Prop} {x1 : Int} {M : Mem} {x2 : Int} {x3 : Int} (hC : rC p R s m args meth c cells slots D aC ad 6 cX9_fewestAgainst RX9 1 20 (some .int)) (hQ : ∀ (pc : Nat) (L : List (Nat × RV)) (z : Int), decode cX9_fewestAgainst pc = .ok (.ireturn, 1) → Q z → rG p l e R s m args below meth c cells slots Qs D aC ad 6 pc L [vI z] M) (hw : w_Words_fewestAgainst_L0 Q x1 M x2 x3) : rG p l e R s m args below meth c cells slots Qs D aC ad 6 20 [(0, vR 5), (1, vI x1), (2, vI x2), (3, vI x3)] [] M := by
  unfold w_Words_fewestAgainst_L0 at hw
  exact hw (fun x2 x3 => rG p l e R s m args below meth c cells slots Qs D aC ad 6 20 [(0, vR 5), (1, vI x1), (2, vI x2), (3, vI x3)] [] M) (fun x2 x3 hb => s_Words_fewestAgainst_B0 hC hQ (fun _ _ h => h) hb)
def w_Words_fewestAgainst (M : Mem) (x1 : Int) (Q : Int → Prop) : Prop :=
  (0 ≤ x1 * 729 ∧ x1 * 729 < 4374) ∧ (∀ a2 : Int, a2 = M 37 (x1 * 729) → 0 ≤ a2 → a2 ≤ 65535 → ∀ a4 : Int, a4 = M 5 6 → 0 ≤ a4 → a4 ≤ 65535 → w_Words_fewestAgainst_L0 Q x1 M (bAnd a2 (bXor a4 (-1))) 1)
set_option maxRecDepth 100000 in
set_option maxHeartbeats 4000000 in
theorem s_Words_fewestAgainst {M : Mem} {x1 : Int} {Q : Int → Prop} (hC : rC p R s m args meth c cells slots D aC ad 6 cX9_fewestAgainst RX9 1 20 (some .int)) (hQ : ∀ (pc : Nat) (L : List (Nat × RV)) (z : Int), decode cX9_fewestAgainst pc = .ok (.ireturn, 1) → Q z → rG p l e R s m args below meth c cells slots Qs D aC ad 6 pc L [vI z] M) (hw : w_Words_fewestAgainst M x1 Q) : rG p l e R s m args below meth c cells slots Qs D aC ad 6 0 [(0, vR 5), (1, vI x1)] [] M := by
  unfold w_Words_fewestAgainst at hw
  refine r_aload_n hC dX9_fewestAgainst_0 rfl rfl ?_
  refine r_getR hC 8 rfl (by decide) kf9_30 rfl rfl dX9_fewestAgainst_1 ?_
  refine r_iload_n hC dX9_fewestAgainst_4 rfl rfl ?_
  refine r_sipush hC dX9_fewestAgainst_5 (by decide) ?_
  refine r_imul hC dX9_fewestAgainst_8 ?_
  obtain ⟨o1, hw⟩ := hw
  refine r_iald hC rfl o1.1 o1.2 (by decide) (by decide) dX9_fewestAgainst_9 (fun b3 b3' => ?_)
  replace hw := hw _ rfl b3 b3'
  refine r_aload_n hC dX9_fewestAgainst_10 rfl rfl ?_
  refine r_getI hC 6 rfl (by decide) kf9_100 rfl rfl dX9_fewestAgainst_11 (fun b5 b5' => ?_)
  replace hw := hw _ rfl b5 b5'
  refine r_iconst hC dX9_fewestAgainst_14 ?_
  refine r_ixor hC dX9_fewestAgainst_15 ?_
  refine r_iand hC dX9_fewestAgainst_16 ?_
  refine r_istore_n hC dX9_fewestAgainst_17 rfl (by decide) ?_
  refine r_iconst hC dX9_fewestAgainst_18 ?_
  refine r_istore_n hC dX9_fewestAgainst_19 rfl (by decide) ?_
  exact r_subk (s_Words_fewestAgainst_L0 hC hQ hw) ⟨rfl, rfl, rfl, rfl, trivial⟩
set_option maxRecDepth 100000 in
set_option maxHeartbeats 4000000 in
theorem d_Words_fewestAgainst {l : Launch} {D : va_G} {aC : Nat → ClassId} {ad : Nat → Nat} {M : Mem} {x1 : Int} {Q : Int → Prop} (hw : w_Words_fewestAgainst M x1 Q) : Does l D aC ad yX9_fewestAgainst cX9_fewestAgainst 6 (some .int) 1 20 [vR 5, vI x1] M (qI M Q) :=
  Does.of (by decide) (Nat.le_of_ble_eq_true rfl) (fun p e R s m args below meth c hC => r_subk (s_Words_fewestAgainst hC (fun pc L z d h => r_iret hC d ⟨rfl, ⟨z, rfl, h⟩⟩) hw) ⟨rfl, rfl, trivial⟩)
end
