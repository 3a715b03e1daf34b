section
variable {p : Program} {l : Launch} {e : Env} {R : Room} {s : State} {m : MethodId} {args : Array Value} {below : List Frame} {meth : Method} {c : Code} {cells slots : Nat} {Qs : State → Prop} {D : va_G} {aC : Nat → ClassId} {ad : Nat → Nat}
/-- SoupSandModel.here -/
def w_m_here_j0 (Q : Int → Mem → Prop) (M : Mem) : Prop :=
  ∀ a1 : Int, a1 = M 12 62 → 0 ≤ a1 → a1 ≤ 200 → ∀ a3 : Int, a3 = M 12 60 → 0 ≤ a3 → a3 ≤ 200 → (a3 ≤ a1 → Q (-1) M) ∧ (¬ (a3 ≤ a1) → ∀ a8 : Int, a8 = M 12 62 → 0 ≤ a8 → a8 ≤ 200 → (0 ≤ a8 ∧ a8 < 200) ∧ (∀ a11 : Int, a11 = M 98 a8 → 0 ≤ a11 → a11 ≤ 255 → Q a11 M))
set_option maxRecDepth 100000 in
set_option maxHeartbeats 4000000 in
theorem s_m_here_j0 {Q : Int → Mem → Prop} {M : Mem} (hC : rC p R s m args meth c cells slots D aC ad 1 cX12_here RX12 0 0 (some .int)) (hQ : ∀ (pc : Nat) (L : List (Nat × RV)) (z : Int) (M : Mem), decode cX12_here pc = .ok (.ireturn, 1) → Q z M → rG p l e R s m args below meth c cells slots Qs D aC ad 1 pc L [vI z] M) (hw : w_m_here_j0 Q M) : rG p l e R s m args below meth c cells slots Qs D aC ad 1 38 [(0, vR 12)] [] M := by
  unfold w_m_here_j0 at hw
  refine r_aload_n hC dX12_here_38 rfl rfl ?_
  refine r_getI hC 62 rfl (by decide) kf12_395 rfl rfl dX12_here_39 (fun b2 b2' => ?_)
  replace hw := hw _ rfl b2 b2'
  refine r_aload_n hC dX12_here_42 rfl rfl ?_
  refine r_getI hC 60 rfl (by decide) kf12_222 rfl rfl dX12_here_43 (fun b4 b4' => ?_)
  replace hw := hw _ rfl b4 b4'
  obtain ⟨hwt, hwf⟩ := hw
  refine r_icmp_ge hC 61 dX12_here_46 (by decide) (by omega) (by omega) (by omega) (by omega) (fun c7 => ?_) (fun c7 => ?_)
  · have hw := hwt c7
    refine r_iconst hC dX12_here_61 ?_
    exact hQ _ _ _ _ dX12_here_62 hw
  · have hw := hwf c7
    refine r_aload_n hC dX12_here_49 rfl rfl ?_
    refine r_getR hC 59 rfl (by decide) kf12_147 rfl rfl dX12_here_50 ?_
    refine r_aload_n hC dX12_here_53 rfl rfl ?_
    refine r_getI hC 62 rfl (by decide) kf12_395 rfl rfl dX12_here_54 (fun b9 b9' => ?_)
    replace hw := hw _ rfl b9 b9'
    obtain ⟨o10, hw⟩ := hw
    refine r_iald hC rfl o10.1 o10.2 (by decide) (by decide) dX12_here_57 (fun b12 b12' => ?_)
    replace hw := hw _ rfl b12 b12'
    refine r_goto hC 62 dX12_here_58 (by decide) ?_
    exact hQ _ _ _ _ dX12_here_62 hw
def w_m_here_B0 (Q : Int → Mem → Prop) (X0 : Mem → Prop) (M : Mem) : Prop :=
  ∀ a1 : Int, a1 = M 12 62 → 0 ≤ a1 → a1 ≤ 200 → ∀ a3 : Int, a3 = M 12 60 → 0 ≤ a3 → a3 ≤ 200 → (a3 ≤ a1 → w_m_here_j0 Q M) ∧ (¬ (a3 ≤ a1) → ∀ a8 : Int, a8 = M 12 62 → 0 ≤ a8 → a8 ≤ 200 → (0 ≤ a8 ∧ a8 < 200) ∧ (∀ a11 : Int, a11 = M 98 a8 → 0 ≤ a11 → a11 ≤ 255 → (¬ (a11 = 32) → w_m_here_j0 Q M) ∧ (a11 = 32 → ∀ a16 : Int, a16 = M 12 62 → 0 ≤ a16 → a16 ≤ 200 → (0 ≤ a16 + 1 ∧ a16 + 1 ≤ 200) ∧ (∀ M19 : Mem, M19 = mset M 12 62 (a16 + 1) → X0 M19))))
set_option maxRecDepth 100000 in
set_option maxHeartbeats 4000000 in
theorem s_m_here_B0 {Q : Int → Mem → Prop} {X0 : Mem → Prop} {M : Mem} (hC : rC p R s m args meth c cells slots D aC ad 1 cX12_here RX12 0 0 (some .int)) (hQ : ∀ (pc : Nat) (L : List (Nat × RV)) (z : Int) (M : Mem), decode cX12_here pc = .ok (.ireturn, 1) → Q z M → rG p l e R s m args below meth c cells slots Qs D aC ad 1 pc L [vI z] M) (hX0 : ∀ (M : Mem), X0 M → rG p l e R s m args below meth c cells slots Qs D aC ad 1 0 [(0, vR 12)] [] M) (hw : w_m_here_B0 Q X0 M) : rG p l e R s m args below meth c cells slots Qs D aC ad 1 0 [(0, vR 12)] [] M := by
  unfold w_m_here_B0 at hw
  refine r_aload_n hC dX12_here_0 rfl rfl ?_
  refine r_getI hC 62 rfl (by decide) kf12_395 rfl rfl dX12_here_1 (fun b2 b2' => ?_)
  replace hw := hw _ rfl b2 b2'
  refine r_aload_n hC dX12_here_4 rfl rfl ?_
  refine r_getI hC 60 rfl (by decide) kf12_222 rfl rfl dX12_here_5 (fun b4 b4' => ?_)
  replace hw := hw _ rfl b4 b4'
  obtain ⟨hwt, hwf⟩ := hw
  refine r_icmp_ge hC 38 dX12_here_8 (by decide) (by omega) (by omega) (by omega) (by omega) (fun c7 => ?_) (fun c7 => ?_)
  · have hw := hwt c7
    exact r_subk (s_m_here_j0 hC hQ hw) ⟨rfl, trivial⟩
  · have hw := hwf c7
    refine r_aload_n hC dX12_here_11 rfl rfl ?_
    refine r_getR hC 59 rfl (by decide) kf12_147 rfl rfl dX12_here_12 ?_
    refine r_aload_n hC dX12_here_15 rfl rfl ?_
    refine r_getI hC 62 rfl (by decide) kf12_395 rfl rfl dX12_here_16 (fun b9 b9' => ?_)
    replace hw := hw _ rfl b9 b9'
    obtain ⟨o10, hw⟩ := hw
    refine r_iald hC rfl o10.1 o10.2 (by decide) (by decide) dX12_here_19 (fun b12 b12' => ?_)
    replace hw := hw _ rfl b12 b12'
    refine r_bipush hC dX12_here_20 (by decide) ?_
    obtain ⟨hwt, hwf⟩ := hw
    refine r_icmp_ne hC 38 dX12_here_22 (by decide) (by omega) (by omega) (by decide) (by decide) (fun c15 => ?_) (fun c15 => ?_)
    · have hw := hwt c15
      exact r_subk (s_m_here_j0 hC hQ hw) ⟨rfl, trivial⟩
    · have hw := hwf c15
      refine r_aload_n hC dX12_here_25 rfl rfl ?_
      refine r_dup hC dX12_here_26 rfl ?_
      refine r_getI hC 62 rfl (by decide) kf12_395 rfl rfl dX12_here_27 (fun b17 b17' => ?_)
      replace hw := hw _ rfl b17 b17'
      refine r_iconst hC dX12_here_30 ?_
      refine r_iadd hC dX12_here_31 ?_
      obtain ⟨o18, hw⟩ := hw
      refine r_putI hC 62 rfl (by decide) kf12_395 rfl rfl o18.1 o18.2 dX12_here_32 ?_
      replace hw := hw _ rfl
      refine r_goto hC 0 dX12_here_35 (by decide) ?_
      exact r_subk (hX0 _ hw) ⟨rfl, trivial⟩
def w_m_here_L0 (Q : Int → Mem → Prop) (M : Mem) : Prop :=
  ∀ X : Mem → Prop, (∀ (M : Mem), w_m_here_B0 Q X M → X M) → X M
set_option maxRecDepth 100000 in
set_option maxHeartbeats 4000000 in
theorem s_m_here_L0 {Q : Int → Mem → Prop} {M : Mem} (hC : rC p R s m args meth c cells slots D aC ad 1 cX12_here RX12 0 0 (some .int)) (hQ : ∀ (pc : Nat) (L : List (Nat × RV)) (z : Int) (M : Mem), decode cX12_here pc = .ok (.ireturn, 1) → Q z M → rG p l e R s m args below meth c cells slots Qs D aC ad 1 pc L [vI z] M) (hw : w_m_here_L0 Q M) : rG p l e R s m args below meth c cells slots Qs D aC ad 1 0 [(0, vR 12)] [] M := by
  unfold w_m_here_L0 at hw
  exact hw (fun M => rG p l e R s m args below meth c cells slots Qs D aC ad 1 0 [(0, vR 12)] [] M) (fun M hb => s_m_here_B0 hC hQ (fun _ h => h) hb)
def w_m_here (M : Mem) (Q : Int → Mem → Prop) : Prop :=
  w_m_here_L0 Q M
set_option maxRecDepth 100000 in
set_option maxHeartbeats 4000000 in
theorem s_m_here {M : Mem} {Q : Int → Mem → Prop} (hC : rC p R s m args meth c cells slots D aC ad 1 cX12_here RX12 0 0 (some .int)) (hQ : ∀ (pc : Nat) (L : List (Nat × RV)) (z : Int) (M : Mem), decode cX12_here pc = .ok (.ireturn, 1) → Q z M → rG p l e R s m args below meth c cells slots Qs D aC ad 1 pc L [vI z] M) (hw : w_m_here M Q) : rG p l e R s m args below meth c cells slots Qs D aC ad 1 0 [(0, vR 12)] [] M := by
  unfold w_m_here at hw
  exact r_subk (s_m_here_L0 hC hQ hw) ⟨rfl, trivial⟩
set_option maxRecDepth 100000 in
set_option maxHeartbeats 4000000 in
theorem d_m_here {l : Launch} {D : va_G} {aC : Nat → ClassId} {ad : Nat → Nat} {M : Mem} {Q : Int → Mem → Prop} (hw : w_m_here M Q) : Does l D aC ad yX12_here cX12_here 1 (some .int) 0 0 [vR 12] M (pI Q) :=
  Does.of (by decide) (Nat.le_of_ble_eq_true rfl) (fun p e R s m args below meth c hC => r_subk (s_m_here hC (fun pc L z M d h => r_iret hC d ⟨z, rfl, h⟩) hw) ⟨rfl, trivial⟩)
theorem dd_12_here : yX12_here.cls ≠ "java/lang/invoke/MethodHandle" ∧ yX12_here.cls ≠ "java/lang/invoke/VarHandle" ∧ (parseMethodDescriptor yX12_here.desc).map (fun d => d.parameters.length) = some 0 := by decide +kernel
/-- SoupSandModel.readWord -/
def w_m_readWord_j0 (Q : Mem → Prop) (X18 : Mem → Prop) (s1 : Int) (M : Mem) : Prop :=
  (-1125899906842624 ≤ s1 ∧ s1 ≤ 1125899906842624) ∧ (∀ M2 : Mem, M2 = mset M 12 63 s1 → ∀ a3 : Int, a3 = M2 12 64 → 0 ≤ a3 → a3 ≤ 200 → (0 ≤ a3 + 1 ∧ a3 + 1 ≤ 200) ∧ (∀ M6 : Mem, M6 = mset M2 12 64 (a3 + 1) → X18 M6))
set_option maxRecDepth 100000 in
set_option maxHeartbeats 4000000 in
theorem s_m_readWord_j0 {Q : Mem → Prop} {X18 : Mem → Prop} {s1 : Int} {M : Mem} (hC : rC p R s m args meth c cells slots D aC ad 2 cX12_readWord RX12 1 25 none) (hQ : ∀ (pc : Nat) (L : List (Nat × RV)) (M : Mem), decode cX12_readWord pc = .ok (.return_, 1) → Q M → rG p l e R s m args below meth c cells slots Qs D aC ad 2 pc L [] M) (hX18 : ∀ (M : Mem), X18 M → rG p l e R s m args below meth c cells slots Qs D aC ad 2 18 [(0, vR 12)] [] M) (hw : w_m_readWord_j0 Q X18 s1 M) : rG p l e R s m args below meth c cells slots Qs D aC ad 2 92 [(0, vR 12)] [vJ s1, vR 12] M := by
  unfold w_m_readWord_j0 at hw
  obtain ⟨o1, hw⟩ := hw
  refine r_putJ hC 63 rfl (by decide) kf12_402 rfl rfl o1.1 o1.2 dX12_readWord_92 ?_
  replace hw := hw _ rfl
  refine r_aload_n hC dX12_readWord_95 rfl rfl ?_
  refine r_dup hC dX12_readWord_96 rfl ?_
  refine r_getI hC 64 rfl (by decide) kf12_405 rfl rfl dX12_readWord_97 (fun b4 b4' => ?_)
  replace hw := hw _ rfl b4 b4'
  refine r_iconst hC dX12_readWord_100 ?_
  refine r_iadd hC dX12_readWord_101 ?_
  obtain ⟨o5, hw⟩ := hw
  refine r_putI hC 64 rfl (by decide) kf12_405 rfl rfl o5.1 o5.2 dX12_readWord_102 ?_
  replace hw := hw _ rfl
  refine r_goto hC 18 dX12_readWord_105 (by decide) ?_
  exact r_subk (hX18 _ hw) ⟨rfl, trivial⟩
def w_m_readWord_B0 (Q : Mem → Prop) (X18 : Mem → Prop) (M : Mem) : Prop :=
  ∀ a1 : Int, a1 = M 12 64 → 0 ≤ a1 → a1 ≤ 200 → ∀ a3 : Int, a3 = M 12 60 → 0 ≤ a3 → a3 ≤ 200 → (a3 ≤ a1 → Q M) ∧ (¬ (a3 ≤ a1) → ∀ a8 : Int, a8 = M 12 64 → 0 ≤ a8 → a8 ≤ 200 → (0 ≤ a8 ∧ a8 < 200) ∧ (∀ a11 : Int, a11 = M 98 a8 → 0 ≤ a11 → a11 ≤ 255 → w_m_in M a11 97 122 (fun a14 => (-2147483648 ≤ a14 ∧ a14 ≤ 2147483647) ∧ ((a14 = 0 → Q M) ∧ (¬ (a14 = 0) → ∀ a18 : Int, a18 = M 12 63 → -1125899906842624 ≤ a18 → a18 ≤ 1125899906842624 → (a18 ≤ 10000000000 → ∀ a23 : Int, a23 = M 12 63 → -1125899906842624 ≤ a23 → a23 ≤ 1125899906842624 → ∀ a25 : Int, a25 = M 12 64 → 0 ≤ a25 → a25 ≤ 200 → (0 ≤ a25 ∧ a25 < 200) ∧ (∀ a28 : Int, a28 = M 98 a25 → 0 ≤ a28 → a28 ≤ 255 → w_m_readWord_j0 Q X18 (((27 * a23) + a28) - 96) M)) ∧ (¬ (a18 ≤ 10000000000) → w_m_readWord_j0 Q X18 20000000000 M))))))
set_option maxRecDepth 100000 in
set_option maxHeartbeats 4000000 in
theorem s_m_readWord_B0 {Q : Mem → Prop} {X18 : Mem → Prop} {M : Mem} (hC : rC p R s m args meth c cells slots D aC ad 2 cX12_readWord RX12 1 25 none) (hQ : ∀ (pc : Nat) (L : List (Nat × RV)) (M : Mem), decode cX12_readWord pc = .ok (.return_, 1) → Q M → rG p l e R s m args below meth c cells slots Qs D aC ad 2 pc L [] M) (hX18 : ∀ (M : Mem), X18 M → rG p l e R s m args below meth c cells slots Qs D aC ad 2 18 [(0, vR 12)] [] M) (hw : w_m_readWord_B0 Q X18 M) : rG p l e R s m args below meth c cells slots Qs D aC ad 2 18 [(0, vR 12)] [] M := by
  unfold w_m_readWord_B0 at hw
  refine r_aload_n hC dX12_readWord_18 rfl rfl ?_
  refine r_getI hC 64 rfl (by decide) kf12_405 rfl rfl dX12_readWord_19 (fun b2 b2' => ?_)
  replace hw := hw _ rfl b2 b2'
  refine r_aload_n hC dX12_readWord_22 rfl rfl ?_
  refine r_getI hC 60 rfl (by decide) kf12_222 rfl rfl dX12_readWord_23 (fun b4 b4' => ?_)
  replace hw := hw _ rfl b4 b4'
  obtain ⟨hwt, hwf⟩ := hw
  refine r_icmp_ge hC 108 dX12_readWord_26 (by decide) (by omega) (by omega) (by omega) (by omega) (fun c7 => ?_) (fun c7 => ?_)
  · have hw := hwt c7
    exact hQ _ _ _ dX12_readWord_108 hw
  · have hw := hwf c7
    refine r_aload_n hC dX12_readWord_29 rfl rfl ?_
    refine r_getR hC 59 rfl (by decide) kf12_147 rfl rfl dX12_readWord_30 ?_
    refine r_aload_n hC dX12_readWord_33 rfl rfl ?_
    refine r_getI hC 64 rfl (by decide) kf12_405 rfl rfl dX12_readWord_34 (fun b9 b9' => ?_)
    replace hw := hw _ rfl b9 b9'
    obtain ⟨o10, hw⟩ := hw
    refine r_iald hC rfl o10.1 o10.2 (by decide) (by decide) dX12_readWord_37 (fun b12 b12' => ?_)
    replace hw := hw _ rfl b12 b12'
    refine r_i2l hC dX12_readWord_38 (by omega) (by omega) ?_
    refine r_ldc2 hC (97) dX12_readWord_39 kL12_408 (by decide) ?_
    refine r_ldc2 hC (122) dX12_readWord_42 kL12_410 (by decide) ?_
    refine r_callS hC (d_m_in hw) kC12_in km12_165 kT12_in kN12 dd_12_in ⟨Nat.le_of_ble_eq_true rfl, Nat.le_of_ble_eq_true rfl⟩ rfl (Nat.le_of_ble_eq_true rfl) dX12_readWord_45 (fun r M' hp => ?_)
    obtain ⟨rfl, a14, rfl, hw⟩ := hp
    try dsimp only at hw
    obtain ⟨o15, hw⟩ := hw
    obtain ⟨hwt, hwf⟩ := hw
    refine r_if_eq hC 108 dX12_readWord_48 (by decide) o15.1 o15.2 (fun c17 => ?_) (fun c17 => ?_)
    · have hw := hwt c17
      exact hQ _ _ _ dX12_readWord_108 hw
    · have hw := hwf c17
      refine r_aload_n hC dX12_readWord_51 rfl rfl ?_
      refine r_aload_n hC dX12_readWord_52 rfl rfl ?_
      refine r_getJ hC 63 rfl (by decide) kf12_402 rfl rfl dX12_readWord_53 (fun b19 b19' => ?_)
      replace hw := hw _ rfl b19 b19'
      refine r_ldc2 hC (10000000000) dX12_readWord_56 kL12_412 (by decide) ?_
      obtain ⟨hwt, hwf⟩ := hw
      refine r_lcmp_le hC 69 dX12_readWord_59 dX12_readWord_60 (by decide) (by omega) (by omega) (by decide) (by decide) (fun c22 => ?_) (fun c22 => ?_)
      · have hw := hwt c22
        refine r_ldc2 hC (27) dX12_readWord_69 kL12_416 (by decide) ?_
        refine r_aload_n hC dX12_readWord_72 rfl rfl ?_
        refine r_getJ hC 63 rfl (by decide) kf12_402 rfl rfl dX12_readWord_73 (fun b24 b24' => ?_)
        replace hw := hw _ rfl b24 b24'
        refine r_lmul hC dX12_readWord_76 ?_
        refine r_aload_n hC dX12_readWord_77 rfl rfl ?_
        refine r_getR hC 59 rfl (by decide) kf12_147 rfl rfl dX12_readWord_78 ?_
        refine r_aload_n hC dX12_readWord_81 rfl rfl ?_
        refine r_getI hC 64 rfl (by decide) kf12_405 rfl rfl dX12_readWord_82 (fun b26 b26' => ?_)
        replace hw := hw _ rfl b26 b26'
        obtain ⟨o27, hw⟩ := hw
        refine r_iald hC rfl o27.1 o27.2 (by decide) (by decide) dX12_readWord_85 (fun b29 b29' => ?_)
        replace hw := hw _ rfl b29 b29'
        refine r_i2l hC dX12_readWord_86 (by omega) (by omega) ?_
        refine r_ladd hC dX12_readWord_87 ?_
        refine r_ldc2 hC (96) dX12_readWord_88 kL12_418 (by decide) ?_
        refine r_lsub hC dX12_readWord_91 ?_
        exact r_subk (s_m_readWord_j0 hC hQ hX18 hw) ⟨rfl, trivial⟩
      · have hw := hwf c22
        refine r_ldc2 hC (20000000000) dX12_readWord_63 kL12_414 (by decide) ?_
        refine r_goto hC 92 dX12_readWord_66 (by decide) ?_
        exact r_subk (s_m_readWord_j0 hC hQ hX18 hw) ⟨rfl, trivial⟩
def w_m_readWord_L0 (Q : Mem → Prop) (M : Mem) : Prop :=
  ∀ X : Mem → Prop, (∀ (M : Mem), w_m_readWord_B0 Q X M → X M) → X M
set_option maxRecDepth 100000 in
set_option maxHeartbeats 4000000 in
theorem s_m_readWord_L0 {Q : Mem → Prop} {M : Mem} (hC : rC p R s m args meth c cells slots D aC ad 2 cX12_readWord RX12 1 25 none) (hQ : ∀ (pc : Nat) (L : List (Nat × RV)) (M : Mem), decode cX12_readWord pc = .ok (.return_, 1) → Q M → rG p l e R s m args below meth c cells slots Qs D aC ad 2 pc L [] M) (hw : w_m_readWord_L0 Q M) : rG p l e R s m args below meth c cells slots Qs D aC ad 2 18 [(0, vR 12)] [] M := by
  unfold w_m_readWord_L0 at hw
  exact hw (fun M => rG p l e R s m args below meth c cells slots Qs D aC ad 2 18 [(0, vR 12)] [] M) (fun M hb => s_m_readWord_B0 hC hQ (fun _ h => h) hb)
def w_m_readWord (M : Mem) (Q : Mem → Prop) : Prop :=
  w_m_here M (fun a1 M2 => ∀ M4 : Mem, M4 = mset M2 12 63 0 → ∀ a5 : Int, a5 = M4 12 62 → 0 ≤ a5 → a5 ≤ 200 → ∀ M8 : Mem, M8 = mset M4 12 64 a5 → w_m_readWord_L0 Q M8)
set_option maxRecDepth 100000 in
set_option maxHeartbeats 4000000 in
theorem s_m_readWord {M : Mem} {Q : Mem → Prop} (hC : rC p R s m args meth c cells slots D aC ad 2 cX12_readWord RX12 1 25 none) (hQ : ∀ (pc : Nat) (L : List (Nat × RV)) (M : Mem), decode cX12_readWord pc = .ok (.return_, 1) → Q M → rG p l e R s m args below meth c cells slots Qs D aC ad 2 pc L [] M) (hw : w_m_readWord M Q) : rG p l e R s m args below meth c cells slots Qs D aC ad 2 0 [(0, vR 12)] [] M := by
  unfold w_m_readWord at hw
  refine r_aload_n hC dX12_readWord_0 rfl rfl ?_
  refine r_callV hC (d_m_here hw) rfl kC12_here km12_398 kI12_here kS12_here kN12 dd_12_here ⟨Nat.le_of_ble_eq_true rfl, Nat.le_of_ble_eq_true rfl⟩ rfl (Nat.le_of_ble_eq_true rfl) dX12_readWord_1 (fun r M' hp => ?_)
  obtain ⟨a1, rfl, hw⟩ := hp
  try dsimp only at hw
  refine r_istore_n hC dX12_readWord_4 rfl (by decide) ?_
  refine r_aload_n hC dX12_readWord_5 rfl rfl ?_
  refine r_lconst hC 0 dX12_readWord_6 (by decide) ?_
  refine r_putJ hC 63 rfl (by decide) kf12_402 rfl rfl (by decide) (by decide) dX12_readWord_7 ?_
  replace hw := hw _ rfl
  refine r_aload_n hC dX12_readWord_10 rfl rfl ?_
  refine r_aload_n hC dX12_readWord_11 rfl rfl ?_
  refine r_getI hC 62 rfl (by decide) kf12_395 rfl rfl dX12_readWord_12 (fun b6 b6' => ?_)
  replace hw := hw _ rfl b6 b6'
  refine r_putI hC 64 rfl (by decide) kf12_405 rfl rfl (by omega) (by omega) dX12_readWord_15 ?_
  replace hw := hw _ rfl
  exact r_subk (s_m_readWord_L0 hC hQ hw) ⟨rfl, trivial⟩
set_option maxRecDepth 100000 in
set_option maxHeartbeats 4000000 in
theorem d_m_readWord {l : Launch} {D : va_G} {aC : Nat → ClassId} {ad : Nat → Nat} {M : Mem} {Q : Mem → Prop} (hw : w_m_readWord M Q) : Does l D aC ad yX12_readWord cX12_readWord 2 none 1 25 [vR 12] M (pV Q) :=
  Does.of (by decide) (Nat.le_of_ble_eq_true rfl) (fun p e R s m args below meth c hC => r_subk (s_m_readWord hC (fun pc L M d h => r_vret hC d ⟨rfl, h⟩) hw) ⟨rfl, trivial⟩)
/-- SoupSandModel.code -/
def w_m_code_j1 (Q : Int → Prop) (x5 : Int) (s0 : Int) (M : Mem) : Prop :=
  (-2147483648 ≤ x5 ∧ x5 ≤ 2147483647) ∧ ((¬ (x5 = 0) → (-2147483648 ≤ x5 ∧ x5 ≤ 2147483647) ∧ (Q (((27 * s0) + x5) - 96))) ∧ (x5 = 0 → Q s0))
set_option maxRecDepth 100000 in
set_option maxHeartbeats 4000000 in
theorem s_m_code_j1 {Q : Int → Prop} {x5 : Int} {s0 : Int} {M : Mem} (hC : rC p R s m args meth c cells slots D aC ad 8 cX12_code RX12 0 0 (some .long)) (hQ : ∀ (pc : Nat) (L : List (Nat × RV)) (z : Int), decode cX12_code pc = .ok (.lreturn, 1) → Q z → rG p l e R s m args below meth c cells slots Qs D aC ad 8 pc L [vJ z] M) (hw : w_m_code_j1 Q x5 s0 M) : rG p l e R s m args below meth c cells slots Qs D aC ad 8 82 [(5, vI x5)] [vJ s0] M := by
  unfold w_m_code_j1 at hw
  refine r_lstore hC dX12_code_82 (by decide) ?_
  refine r_iload hC dX12_code_84 rfl ?_
  obtain ⟨o1, hw⟩ := hw
  obtain ⟨hwt, hwf⟩ := hw
  refine r_if_ne hC 94 dX12_code_86 (by decide) o1.1 o1.2 (fun c3 => ?_) (fun c3 => ?_)
  · have hw := hwt c3
    refine r_ldc2 hC (27) dX12_code_94 kL12_416 (by decide) ?_
    refine r_lload hC dX12_code_97 rfl ?_
    refine r_lmul hC dX12_code_99 ?_
    refine r_iload hC dX12_code_100 rfl ?_
    obtain ⟨o4, hw⟩ := hw
    refine r_i2l hC dX12_code_102 o4.1 o4.2 ?_
    refine r_ladd hC dX12_code_103 ?_
    refine r_ldc2 hC (96) dX12_code_104 kL12_418 (by decide) ?_
    refine r_lsub hC dX12_code_107 ?_
    exact hQ _ _ _ dX12_code_108 hw
  · have hw := hwf c3
    refine r_lload hC dX12_code_89 rfl ?_
    refine r_goto hC 108 dX12_code_91 (by decide) ?_
    exact hQ _ _ _ dX12_code_108 hw
def w_m_code_j0 (Q : Int → Prop) (x4 : Int) (x5 : Int) (s0 : Int) (M : Mem) : Prop :=
  (-2147483648 ≤ x4 ∧ x4 ≤ 2147483647) ∧ ((¬ (x4 = 0) → (-2147483648 ≤ x4 ∧ x4 ≤ 2147483647) ∧ (w_m_code_j1 Q x5 (((27 * s0) + x4) - 96) M)) ∧ (x4 = 0 → w_m_code_j1 Q x5 s0 M))
set_option maxRecDepth 100000 in
set_option maxHeartbeats 4000000 in
theorem s_m_code_j0 {Q : Int → Prop} {x4 : Int} {x5 : Int} {s0 : Int} {M : Mem} (hC : rC p R s m args meth c cells slots D aC ad 8 cX12_code RX12 0 0 (some .long)) (hQ : ∀ (pc : Nat) (L : List (Nat × RV)) (z : Int), decode cX12_code pc = .ok (.lreturn, 1) → Q z → rG p l e R s m args below meth c cells slots Qs D aC ad 8 pc L [vJ z] M) (hw : w_m_code_j0 Q x4 x5 s0 M) : rG p l e R s m args below meth c cells slots Qs D aC ad 8 56 [(4, vI x4), (5, vI x5)] [vJ s0] M := by
  unfold w_m_code_j0 at hw
  refine r_lstore hC dX12_code_56 (by decide) ?_
  refine r_iload hC dX12_code_58 rfl ?_
  obtain ⟨o1, hw⟩ := hw
  obtain ⟨hwt, hwf⟩ := hw
  refine r_if_ne hC 68 dX12_code_60 (by decide) o1.1 o1.2 (fun c3 => ?_) (fun c3 => ?_)
  · have hw := hwt c3
    refine r_ldc2 hC (27) dX12_code_68 kL12_416 (by decide) ?_
    refine r_lload hC dX12_code_71 rfl ?_
    refine r_lmul hC dX12_code_73 ?_
    refine r_iload hC dX12_code_74 rfl ?_
    obtain ⟨o4, hw⟩ := hw
    refine r_i2l hC dX12_code_76 o4.1 o4.2 ?_
    refine r_ladd hC dX12_code_77 ?_
    refine r_ldc2 hC (96) dX12_code_78 kL12_418 (by decide) ?_
    refine r_lsub hC dX12_code_81 ?_
    exact r_subk (s_m_code_j1 hC hQ hw) ⟨rfl, trivial⟩
  · have hw := hwf c3
    refine r_lload hC dX12_code_63 rfl ?_
    refine r_goto hC 82 dX12_code_65 (by decide) ?_
    exact r_subk (s_m_code_j1 hC hQ hw) ⟨rfl, trivial⟩
def w_m_code (M : Mem) (x0 : Int) (x1 : Int) (x2 : Int) (x3 : Int) (x4 : Int) (x5 : Int) (Q : Int → Prop) : Prop :=
  (-2147483648 ≤ x0 ∧ x0 ≤ 2147483647) ∧ ((-2147483648 ≤ x1 ∧ x1 ≤ 2147483647) ∧ ((-2147483648 ≤ x2 ∧ x2 ≤ 2147483647) ∧ ((-2147483648 ≤ x3 ∧ x3 ≤ 2147483647) ∧ ((¬ (x3 = 0) → (-2147483648 ≤ x3 ∧ x3 ≤ 2147483647) ∧ (w_m_code_j0 Q x4 x5 (((27 * (((27 * (((27 * (x0 - 96)) + x1) - 96)) + x2) - 96)) + x3) - 96) M)) ∧ (x3 = 0 → (0 ≤ 27 * (((27 * (((27 * (x0 - 96)) + x1) - 96)) + x2) - 96) ∧ 27 * (((27 * (((27 * (x0 - 96)) + x1) - 96)) + x2) - 96) ≤ 9223372036854775807) ∧ (w_m_code_j0 Q x4 x5 ((27 * (((27 * (((27 * (x0 - 96)) + x1) - 96)) + x2) - 96)) / 27) M))))))
set_option maxRecDepth 100000 in
set_option maxHeartbeats 4000000 in
theorem s_m_code {M : Mem} {x0 : Int} {x1 : Int} {x2 : Int} {x3 : Int} {x4 : Int} {x5 : Int} {Q : Int → Prop} (hC : rC p R s m args meth c cells slots D aC ad 8 cX12_code RX12 0 0 (some .long)) (hQ : ∀ (pc : Nat) (L : List (Nat × RV)) (z : Int), decode cX12_code pc = .ok (.lreturn, 1) → Q z → rG p l e R s m args below meth c cells slots Qs D aC ad 8 pc L [vJ z] M) (hw : w_m_code M x0 x1 x2 x3 x4 x5 Q) : rG p l e R s m args below meth c cells slots Qs D aC ad 8 0 [(0, vI x0), (1, vI x1), (2, vI x2), (3, vI x3), (4, vI x4), (5, vI x5)] [] M := by
  unfold w_m_code at hw
  refine r_ldc2 hC (27) dX12_code_0 kL12_416 (by decide) ?_
  refine r_ldc2 hC (27) dX12_code_3 kL12_416 (by decide) ?_
  refine r_ldc2 hC (27) dX12_code_6 kL12_416 (by decide) ?_
  refine r_iload_n hC dX12_code_9 rfl rfl ?_
  obtain ⟨o1, hw⟩ := hw
  refine r_i2l hC dX12_code_10 o1.1 o1.2 ?_
  refine r_ldc2 hC (96) dX12_code_11 kL12_418 (by decide) ?_
  refine r_lsub hC dX12_code_14 ?_
  refine r_lmul hC dX12_code_15 ?_
  refine r_iload_n hC dX12_code_16 rfl rfl ?_
  obtain ⟨o2, hw⟩ := hw
  refine r_i2l hC dX12_code_17 o2.1 o2.2 ?_
  refine r_ladd hC dX12_code_18 ?_
  refine r_ldc2 hC (96) dX12_code_19 kL12_418 (by decide) ?_
  refine r_lsub hC dX12_code_22 ?_
  refine r_lmul hC dX12_code_23 ?_
  refine r_iload_n hC dX12_code_24 rfl rfl ?_
  obtain ⟨o3, hw⟩ := hw
  refine r_i2l hC dX12_code_25 o3.1 o3.2 ?_
  refine r_ladd hC dX12_code_26 ?_
  refine r_ldc2 hC (96) dX12_code_27 kL12_418 (by decide) ?_
  refine r_lsub hC dX12_code_30 ?_
  refine r_lmul hC dX12_code_31 ?_
  refine r_lstore hC dX12_code_32 (by decide) ?_
  refine r_iload_n hC dX12_code_34 rfl rfl ?_
  obtain ⟨o4, hw⟩ := hw
  obtain ⟨hwt, hwf⟩ := hw
  refine r_if_ne hC 47 dX12_code_35 (by decide) o4.1 o4.2 (fun c6 => ?_) (fun c6 => ?_)
  · have hw := hwt c6
    refine r_lload hC dX12_code_47 rfl ?_
    refine r_iload_n hC dX12_code_49 rfl rfl ?_
    obtain ⟨o7, hw⟩ := hw
    refine r_i2l hC dX12_code_50 o7.1 o7.2 ?_
    refine r_ladd hC dX12_code_51 ?_
    refine r_ldc2 hC (96) dX12_code_52 kL12_418 (by decide) ?_
    refine r_lsub hC dX12_code_55 ?_
    exact r_subk (s_m_code_j0 hC hQ hw) ⟨rfl, rfl, trivial⟩
  · have hw := hwf c6
    refine r_lload hC dX12_code_38 rfl ?_
    refine r_ldc2 hC (27) dX12_code_40 kL12_416 (by decide) ?_
    obtain ⟨o8, hw⟩ := hw
    refine r_ldiv hC dX12_code_43 o8.1 o8.2 (by decide) (by decide) ?_
    refine r_goto hC 56 dX12_code_44 (by decide) ?_
    exact r_subk (s_m_code_j0 hC hQ hw) ⟨rfl, rfl, trivial⟩
set_option maxRecDepth 100000 in
set_option maxHeartbeats 4000000 in
theorem d_m_code {l : Launch} {D : va_G} {aC : Nat → ClassId} {ad : Nat → Nat} {M : Mem} {x0 : Int} {x1 : Int} {x2 : Int} {x3 : Int} {x4 : Int} {x5 : Int} {Q : Int → Prop} (hw : w_m_code M x0 x1 x2 x3 x4 x5 Q) : Does l D aC ad yX12_code cX12_code 8 (some .long) 0 0 [vI x0, vI x1, vI x2, vI x3, vI x4, vI x5] M (qJ M Q) :=
  Does.of (by decide) (Nat.le_of_ble_eq_true rfl) (fun p e R s m args below meth c hC => r_subk (s_m_code hC (fun pc L z d h => r_lret hC d ⟨rfl, ⟨z, rfl, h⟩⟩) hw) ⟨rfl, rfl, rfl, rfl, rfl, rfl, trivial⟩)
theorem dd_12_code : yX12_code.cls ≠ "java/lang/invoke/MethodHandle" ∧ yX12_code.cls ≠ "java/lang/invoke/VarHandle" ∧ (parseMethodDescriptor yX12_code.desc).map (fun d => d.parameters.length) = some 6 := by decide +kernel
/-- SoupSandModel.keyOf -/
def w_m_keyOf (M : Mem) (Q : Int → Prop) : Prop :=
  ∀ a1 : Int, a1 = M 12 63 → -1125899906842624 ≤ a1 → a1 ≤ 1125899906842624 → w_m_code M 107 105 110 100 0 0 (fun a3 => (-9223372036854775808 ≤ a3 ∧ a3 ≤ 9223372036854775807) ∧ ((¬ (a1 = a3) → ∀ a7 : Int, a7 = M 12 63 → -1125899906842624 ≤ a7 → a7 ≤ 1125899906842624 → w_m_code M 100 114 121 0 0 0 (fun a9 => (-9223372036854775808 ≤ a9 ∧ a9 ≤ 9223372036854775807) ∧ ((¬ (a7 = a9) → ∀ a13 : Int, a13 = M 12 63 → -1125899906842624 ≤ a13 → a13 ≤ 1125899906842624 → w_m_code M 119 101 116 0 0 0 (fun a15 => (-9223372036854775808 ≤ a15 ∧ a15 ≤ 9223372036854775807) ∧ ((¬ (a13 = a15) → ∀ a19 : Int, a19 = M 12 63 → -1125899906842624 ≤ a19 → a19 ≤ 1125899906842624 → w_m_code M 102 108 111 119 0 0 (fun a21 => (-9223372036854775808 ≤ a21 ∧ a21 ≤ 9223372036854775807) ∧ ((¬ (a19 = a21) → ∀ a25 : Int, a25 = M 12 63 → -1125899906842624 ≤ a25 → a25 ≤ 1125899906842624 → w_m_code M 109 97 114 107 0 0 (fun a27 => (-9223372036854775808 ≤ a27 ∧ a27 ≤ 9223372036854775807) ∧ ((¬ (a25 = a27) → ∀ a31 : Int, a31 = M 12 63 → -1125899906842624 ≤ a31 → a31 ≤ 1125899906842624 → w_m_code M 97 102 116 101 114 0 (fun a33 => (-9223372036854775808 ≤ a33 ∧ a33 ≤ 9223372036854775807) ∧ ((¬ (a31 = a33) → Q (-1)) ∧ (a31 = a33 → Q 24)))) ∧ (a25 = a27 → Q 23)))) ∧ (a19 = a21 → Q 22)))) ∧ (a13 = a15 → Q 21)))) ∧ (a7 = a9 → Q 20)))) ∧ (a1 = a3 → Q 0)))
set_option maxRecDepth 100000 in
set_option maxHeartbeats 4000000 in
theorem s_m_keyOf {M : Mem} {Q : Int → Prop} (hC : rC p R s m args meth c cells slots D aC ad 1 cX12_keyOf RX12 1 27 (some .int)) (hQ : ∀ (pc : Nat) (L : List (Nat × RV)) (z : Int), decode cX12_keyOf pc = .ok (.ireturn, 1) → Q z → rG p l e R s m args below meth c cells slots Qs D aC ad 1 pc L [vI z] M) (hw : w_m_keyOf M Q) : rG p l e R s m args below meth c cells slots Qs D aC ad 1 0 [(0, vR 12)] [] M := by
  unfold w_m_keyOf at hw
  refine r_aload_n hC dX12_keyOf_0 rfl rfl ?_
  refine r_getJ hC 63 rfl (by decide) kf12_402 rfl rfl dX12_keyOf_1 (fun b2 b2' => ?_)
  replace hw := hw _ rfl b2 b2'
  refine r_bipush hC dX12_keyOf_4 (by decide) ?_
  refine r_bipush hC dX12_keyOf_6 (by decide) ?_
  refine r_bipush hC dX12_keyOf_8 (by decide) ?_
  refine r_bipush hC dX12_keyOf_10 (by decide) ?_
  refine r_iconst hC dX12_keyOf_12 ?_
  refine r_iconst hC dX12_keyOf_13 ?_
  refine r_callS hC (d_m_code hw) kC12_code km12_420 kT12_code kN12 dd_12_code ⟨Nat.le_of_ble_eq_true rfl, Nat.le_of_ble_eq_true rfl⟩ rfl (Nat.le_of_ble_eq_true rfl) dX12_keyOf_14 (fun r M' hp => ?_)
  obtain ⟨rfl, a3, rfl, hw⟩ := hp
  try dsimp only at hw
  obtain ⟨o5, hw⟩ := hw
  obtain ⟨hwt, hwf⟩ := hw
  refine r_lcmp_ne hC 25 dX12_keyOf_17 dX12_keyOf_18 (by decide) (by omega) (by omega) o5.1 o5.2 (fun c6 => ?_) (fun c6 => ?_)
  · have hw := hwt c6
    refine r_aload_n hC dX12_keyOf_25 rfl rfl ?_
    refine r_getJ hC 63 rfl (by decide) kf12_402 rfl rfl dX12_keyOf_26 (fun b8 b8' => ?_)
    replace hw := hw _ rfl b8 b8'
    refine r_bipush hC dX12_keyOf_29 (by decide) ?_
    refine r_bipush hC dX12_keyOf_31 (by decide) ?_
    refine r_bipush hC dX12_keyOf_33 (by decide) ?_
    refine r_iconst hC dX12_keyOf_35 ?_
    refine r_iconst hC dX12_keyOf_36 ?_
    refine r_iconst hC dX12_keyOf_37 ?_
    refine r_callS hC (d_m_code hw) kC12_code km12_420 kT12_code kN12 dd_12_code ⟨Nat.le_of_ble_eq_true rfl, Nat.le_of_ble_eq_true rfl⟩ rfl (Nat.le_of_ble_eq_true rfl) dX12_keyOf_38 (fun r M' hp => ?_)
    obtain ⟨rfl, a9, rfl, hw⟩ := hp
    try dsimp only at hw
    obtain ⟨o11, hw⟩ := hw
    obtain ⟨hwt, hwf⟩ := hw
    refine r_lcmp_ne hC 50 dX12_keyOf_41 dX12_keyOf_42 (by decide) (by omega) (by omega) o11.1 o11.2 (fun c12 => ?_) (fun c12 => ?_)
    · have hw := hwt c12
      refine r_aload_n hC dX12_keyOf_50 rfl rfl ?_
      refine r_getJ hC 63 rfl (by decide) kf12_402 rfl rfl dX12_keyOf_51 (fun b14 b14' => ?_)
      replace hw := hw _ rfl b14 b14'
      refine r_bipush hC dX12_keyOf_54 (by decide) ?_
      refine r_bipush hC dX12_keyOf_56 (by decide) ?_
      refine r_bipush hC dX12_keyOf_58 (by decide) ?_
      refine r_iconst hC dX12_keyOf_60 ?_
      refine r_iconst hC dX12_keyOf_61 ?_
      refine r_iconst hC dX12_keyOf_62 ?_
      refine r_callS hC (d_m_code hw) kC12_code km12_420 kT12_code kN12 dd_12_code ⟨Nat.le_of_ble_eq_true rfl, Nat.le_of_ble_eq_true rfl⟩ rfl (Nat.le_of_ble_eq_true rfl) dX12_keyOf_63 (fun r M' hp => ?_)
      obtain ⟨rfl, a15, rfl, hw⟩ := hp
      try dsimp only at hw
      obtain ⟨o17, hw⟩ := hw
      obtain ⟨hwt, hwf⟩ := hw
      refine r_lcmp_ne hC 75 dX12_keyOf_66 dX12_keyOf_67 (by decide) (by omega) (by omega) o17.1 o17.2 (fun c18 => ?_) (fun c18 => ?_)
      · have hw := hwt c18
        refine r_aload_n hC dX12_keyOf_75 rfl rfl ?_
        refine r_getJ hC 63 rfl (by decide) kf12_402 rfl rfl dX12_keyOf_76 (fun b20 b20' => ?_)
        replace hw := hw _ rfl b20 b20'
        refine r_bipush hC dX12_keyOf_79 (by decide) ?_
        refine r_bipush hC dX12_keyOf_81 (by decide) ?_
        refine r_bipush hC dX12_keyOf_83 (by decide) ?_
        refine r_bipush hC dX12_keyOf_85 (by decide) ?_
        refine r_iconst hC dX12_keyOf_87 ?_
        refine r_iconst hC dX12_keyOf_88 ?_
        refine r_callS hC (d_m_code hw) kC12_code km12_420 kT12_code kN12 dd_12_code ⟨Nat.le_of_ble_eq_true rfl, Nat.le_of_ble_eq_true rfl⟩ rfl (Nat.le_of_ble_eq_true rfl) dX12_keyOf_89 (fun r M' hp => ?_)
        obtain ⟨rfl, a21, rfl, hw⟩ := hp
        try dsimp only at hw
        obtain ⟨o23, hw⟩ := hw
        obtain ⟨hwt, hwf⟩ := hw
        refine r_lcmp_ne hC 101 dX12_keyOf_92 dX12_keyOf_93 (by decide) (by omega) (by omega) o23.1 o23.2 (fun c24 => ?_) (fun c24 => ?_)
        · have hw := hwt c24
          refine r_aload_n hC dX12_keyOf_101 rfl rfl ?_
          refine r_getJ hC 63 rfl (by decide) kf12_402 rfl rfl dX12_keyOf_102 (fun b26 b26' => ?_)
          replace hw := hw _ rfl b26 b26'
          refine r_bipush hC dX12_keyOf_105 (by decide) ?_
          refine r_bipush hC dX12_keyOf_107 (by decide) ?_
          refine r_bipush hC dX12_keyOf_109 (by decide) ?_
          refine r_bipush hC dX12_keyOf_111 (by decide) ?_
          refine r_iconst hC dX12_keyOf_113 ?_
          refine r_iconst hC dX12_keyOf_114 ?_
          refine r_callS hC (d_m_code hw) kC12_code km12_420 kT12_code kN12 dd_12_code ⟨Nat.le_of_ble_eq_true rfl, Nat.le_of_ble_eq_true rfl⟩ rfl (Nat.le_of_ble_eq_true rfl) dX12_keyOf_115 (fun r M' hp => ?_)
          obtain ⟨rfl, a27, rfl, hw⟩ := hp
          try dsimp only at hw
          obtain ⟨o29, hw⟩ := hw
          obtain ⟨hwt, hwf⟩ := hw
          refine r_lcmp_ne hC 127 dX12_keyOf_118 dX12_keyOf_119 (by decide) (by omega) (by omega) o29.1 o29.2 (fun c30 => ?_) (fun c30 => ?_)
          · have hw := hwt c30
            refine r_aload_n hC dX12_keyOf_127 rfl rfl ?_
            refine r_getJ hC 63 rfl (by decide) kf12_402 rfl rfl dX12_keyOf_128 (fun b32 b32' => ?_)
            replace hw := hw _ rfl b32 b32'
            refine r_bipush hC dX12_keyOf_131 (by decide) ?_
            refine r_bipush hC dX12_keyOf_133 (by decide) ?_
            refine r_bipush hC dX12_keyOf_135 (by decide) ?_
            refine r_bipush hC dX12_keyOf_137 (by decide) ?_
            refine r_bipush hC dX12_keyOf_139 (by decide) ?_
            refine r_iconst hC dX12_keyOf_141 ?_
            refine r_callS hC (d_m_code hw) kC12_code km12_420 kT12_code kN12 dd_12_code ⟨Nat.le_of_ble_eq_true rfl, Nat.le_of_ble_eq_true rfl⟩ rfl (Nat.le_of_ble_eq_true rfl) dX12_keyOf_142 (fun r M' hp => ?_)
            obtain ⟨rfl, a33, rfl, hw⟩ := hp
            try dsimp only at hw
            obtain ⟨o35, hw⟩ := hw
            obtain ⟨hwt, hwf⟩ := hw
            refine r_lcmp_ne hC 154 dX12_keyOf_145 dX12_keyOf_146 (by decide) (by omega) (by omega) o35.1 o35.2 (fun c36 => ?_) (fun c36 => ?_)
            · have hw := hwt c36
              refine r_iconst hC dX12_keyOf_154 ?_
              exact hQ _ _ _ dX12_keyOf_155 hw
            · have hw := hwf c36
              refine r_bipush hC dX12_keyOf_149 (by decide) ?_
              refine r_goto hC 155 dX12_keyOf_151 (by decide) ?_
              exact hQ _ _ _ dX12_keyOf_155 hw
          · have hw := hwf c30
            refine r_bipush hC dX12_keyOf_122 (by decide) ?_
            refine r_goto hC 155 dX12_keyOf_124 (by decide) ?_
            exact hQ _ _ _ dX12_keyOf_155 hw
        · have hw := hwf c24
          refine r_bipush hC dX12_keyOf_96 (by decide) ?_
          refine r_goto hC 155 dX12_keyOf_98 (by decide) ?_
          exact hQ _ _ _ dX12_keyOf_155 hw
      · have hw := hwf c18
        refine r_bipush hC dX12_keyOf_70 (by decide) ?_
        refine r_goto hC 155 dX12_keyOf_72 (by decide) ?_
        exact hQ _ _ _ dX12_keyOf_155 hw
    · have hw := hwf c12
      refine r_bipush hC dX12_keyOf_45 (by decide) ?_
      refine r_goto hC 155 dX12_keyOf_47 (by decide) ?_
      exact hQ _ _ _ dX12_keyOf_155 hw
  · have hw := hwf c6
    refine r_iconst hC dX12_keyOf_21 ?_
    refine r_goto hC 155 dX12_keyOf_22 (by decide) ?_
    exact hQ _ _ _ dX12_keyOf_155 hw
set_option maxRecDepth 100000 in
set_option maxHeartbeats 4000000 in
theorem d_m_keyOf {l : Launch} {D : va_G} {aC : Nat → ClassId} {ad : Nat → Nat} {M : Mem} {Q : Int → Prop} (hw : w_m_keyOf M Q) : Does l D aC ad yX12_keyOf cX12_keyOf 1 (some .int) 1 27 [vR 12] M (qI M Q) :=
  Does.of (by decide) (Nat.le_of_ble_eq_true rfl) (fun p e R s m args below meth c hC => r_subk (s_m_keyOf hC (fun pc L z d h => r_iret hC d ⟨rfl, ⟨z, rfl, h⟩⟩) hw) ⟨rfl, trivial⟩)
/-- SoupSandModel.fails -/
def w_m_fails (M : Mem) (x1 : Int) (x2 : Int) (Q : Int → Mem → Prop) : Prop :=
  (-1 ≤ x2 ∧ x2 ≤ 200) ∧ (∀ M2 : Mem, M2 = mset M 12 61 x2 → Q x1 M2)
set_option maxRecDepth 100000 in
set_option maxHeartbeats 4000000 in
theorem s_m_fails {M : Mem} {x1 : Int} {x2 : Int} {Q : Int → Mem → Prop} (hC : rC p R s m args meth c cells slots D aC ad 3 cX12_fails RX12 0 0 (some .int)) (hQ : ∀ (pc : Nat) (L : List (Nat × RV)) (z : Int) (M : Mem), decode cX12_fails pc = .ok (.ireturn, 1) → Q z M → rG p l e R s m args below meth c cells slots Qs D aC ad 3 pc L [vI z] M) (hw : w_m_fails M x1 x2 Q) : rG p l e R s m args below meth c cells slots Qs D aC ad 3 0 [(0, vR 12), (1, vI x1), (2, vI x2)] [] M := by
  unfold w_m_fails at hw
  refine r_aload_n hC dX12_fails_0 rfl rfl ?_
  refine r_iload_n hC dX12_fails_1 rfl rfl ?_
  obtain ⟨o1, hw⟩ := hw
  refine r_putI hC 61 rfl (by decide) kf12_150 rfl rfl o1.1 o1.2 dX12_fails_2 ?_
  replace hw := hw _ rfl
  refine r_iload_n hC dX12_fails_5 rfl rfl ?_
  exact hQ _ _ _ _ dX12_fails_6 hw
set_option maxRecDepth 100000 in
set_option maxHeartbeats 4000000 in
theorem d_m_fails {l : Launch} {D : va_G} {aC : Nat → ClassId} {ad : Nat → Nat} {M : Mem} {x1 : Int} {x2 : Int} {Q : Int → Mem → Prop} (hw : w_m_fails M x1 x2 Q) : Does l D aC ad yX12_fails cX12_fails 3 (some .int) 0 0 [vR 12, vI x1, vI x2] M (pI Q) :=
  Does.of (by decide) (Nat.le_of_ble_eq_true rfl) (fun p e R s m args below meth c hC => r_subk (s_m_fails hC (fun pc L z M d h => r_iret hC d ⟨z, rfl, h⟩) hw) ⟨rfl, rfl, rfl, trivial⟩)
/-- SoupSandModel.leastOf -/
def w_m_leastOf (M : Mem) (x0 : Int) (Q : Int → Prop) : Prop :=
  (-2147483648 ≤ x0 ∧ x0 ≤ 2147483647) ∧ ((x0 = 20 → Q 1) ∧ (¬ (x0 = 20) → (-2147483648 ≤ x0 ∧ x0 ≤ 2147483647) ∧ ((x0 = 21 → Q 1) ∧ (¬ (x0 = 21) → (-2147483648 ≤ x0 ∧ x0 ≤ 2147483647) ∧ ((¬ (x0 = 23) → Q 0) ∧ (x0 = 23 → Q 1))))))
set_option maxRecDepth 100000 in
set_option maxHeartbeats 4000000 in
theorem s_m_leastOf {M : Mem} {x0 : Int} {Q : Int → Prop} (hC : rC p R s m args meth c cells slots D aC ad 1 cX12_leastOf RX12 0 0 (some .int)) (hQ : ∀ (pc : Nat) (L : List (Nat × RV)) (z : Int), decode cX12_leastOf pc = .ok (.ireturn, 1) → Q z → rG p l e R s m args below meth c cells slots Qs D aC ad 1 pc L [vI z] M) (hw : w_m_leastOf M x0 Q) : rG p l e R s m args below meth c cells slots Qs D aC ad 1 0 [(0, vI x0)] [] M := by
  unfold w_m_leastOf at hw
  refine r_iload_n hC dX12_leastOf_0 rfl rfl ?_
  refine r_bipush hC dX12_leastOf_1 (by decide) ?_
  obtain ⟨o1, hw⟩ := hw
  obtain ⟨hwt, hwf⟩ := hw
  refine r_icmp_eq hC 18 dX12_leastOf_3 (by decide) o1.1 o1.2 (by decide) (by decide) (fun c3 => ?_) (fun c3 => ?_)
  · have hw := hwt c3
    refine r_iconst hC dX12_leastOf_18 ?_
    refine r_goto hC 23 dX12_leastOf_19 (by decide) ?_
    exact hQ _ _ _ dX12_leastOf_23 hw
  · have hw := hwf c3
    refine r_iload_n hC dX12_leastOf_6 rfl rfl ?_
    refine r_bipush hC dX12_leastOf_7 (by decide) ?_
    obtain ⟨o4, hw⟩ := hw
    obtain ⟨hwt, hwf⟩ := hw
    refine r_icmp_eq hC 18 dX12_leastOf_9 (by decide) o4.1 o4.2 (by decide) (by decide) (fun c6 => ?_) (fun c6 => ?_)
    · have hw := hwt c6
      refine r_iconst hC dX12_leastOf_18 ?_
      refine r_goto hC 23 dX12_leastOf_19 (by decide) ?_
      exact hQ _ _ _ dX12_leastOf_23 hw
    · have hw := hwf c6
      refine r_iload_n hC dX12_leastOf_12 rfl rfl ?_
      refine r_bipush hC dX12_leastOf_13 (by decide) ?_
      obtain ⟨o7, hw⟩ := hw
      obtain ⟨hwt, hwf⟩ := hw
      refine r_icmp_ne hC 22 dX12_leastOf_15 (by decide) o7.1 o7.2 (by decide) (by decide) (fun c9 => ?_) (fun c9 => ?_)
      · have hw := hwt c9
        refine r_iconst hC dX12_leastOf_22 ?_
        exact hQ _ _ _ dX12_leastOf_23 hw
      · have hw := hwf c9
        refine r_iconst hC dX12_leastOf_18 ?_
        refine r_goto hC 23 dX12_leastOf_19 (by decide) ?_
        exact hQ _ _ _ dX12_leastOf_23 hw
set_option maxRecDepth 100000 in
set_option maxHeartbeats 4000000 in
theorem d_m_leastOf {l : Launch} {D : va_G} {aC : Nat → ClassId} {ad : Nat → Nat} {M : Mem} {x0 : Int} {Q : Int → Prop} (hw : w_m_leastOf M x0 Q) : Does l D aC ad yX12_leastOf cX12_leastOf 1 (some .int) 0 0 [vI x0] M (qI M Q) :=
  Does.of (by decide) (Nat.le_of_ble_eq_true rfl) (fun p e R s m args below meth c hC => r_subk (s_m_leastOf hC (fun pc L z d h => r_iret hC d ⟨rfl, ⟨z, rfl, h⟩⟩) hw) ⟨rfl, trivial⟩)
/-- SoupSandModel.mostOf -/
def w_m_mostOf (M : Mem) (x0 : Int) (Q : Int → Prop) : Prop :=
  (-2147483648 ≤ x0 ∧ x0 ≤ 2147483647) ∧ ((20 ≤ x0 → (-2147483648 ≤ x0 ∧ x0 ≤ 2147483647) ∧ ((¬ (x0 = 22) → (-2147483648 ≤ x0 ∧ x0 ≤ 2147483647) ∧ ((¬ (x0 = 24) → Q 99) ∧ (x0 = 24 → Q 30))) ∧ (x0 = 22 → Q 100))) ∧ (¬ (20 ≤ x0) → (0 ≤ x0 ∧ x0 ≤ 2147483647) ∧ ((¬ (x0 % 5 = 1) → (0 ≤ x0 ∧ x0 ≤ 2147483647) ∧ ((¬ (x0 % 5 = 2) → Q 99) ∧ (x0 % 5 = 2 → Q 100))) ∧ (x0 % 5 = 1 → Q 999))))
set_option maxRecDepth 100000 in
set_option maxHeartbeats 4000000 in
theorem s_m_mostOf {M : Mem} {x0 : Int} {Q : Int → Prop} (hC : rC p R s m args meth c cells slots D aC ad 1 cX12_mostOf RX12 0 0 (some .int)) (hQ : ∀ (pc : Nat) (L : List (Nat × RV)) (z : Int), decode cX12_mostOf pc = .ok (.ireturn, 1) → Q z → rG p l e R s m args below meth c cells slots Qs D aC ad 1 pc L [vI z] M) (hw : w_m_mostOf M x0 Q) : rG p l e R s m args below meth c cells slots Qs D aC ad 1 0 [(0, vI x0)] [] M := by
  unfold w_m_mostOf at hw
  refine r_iload_n hC dX12_mostOf_0 rfl rfl ?_
  refine r_bipush hC dX12_mostOf_1 (by decide) ?_
  obtain ⟨o1, hw⟩ := hw
  obtain ⟨hwt, hwf⟩ := hw
  refine r_icmp_ge hC 36 dX12_mostOf_3 (by decide) o1.1 o1.2 (by decide) (by decide) (fun c3 => ?_) (fun c3 => ?_)
  · have hw := hwt c3
    refine r_iload_n hC dX12_mostOf_36 rfl rfl ?_
    refine r_bipush hC dX12_mostOf_37 (by decide) ?_
    obtain ⟨o4, hw⟩ := hw
    obtain ⟨hwt, hwf⟩ := hw
    refine r_icmp_ne hC 47 dX12_mostOf_39 (by decide) o4.1 o4.2 (by decide) (by decide) (fun c6 => ?_) (fun c6 => ?_)
    · have hw := hwt c6
      refine r_iload_n hC dX12_mostOf_47 rfl rfl ?_
      refine r_bipush hC dX12_mostOf_48 (by decide) ?_
      obtain ⟨o7, hw⟩ := hw
      obtain ⟨hwt, hwf⟩ := hw
      refine r_icmp_ne hC 58 dX12_mostOf_50 (by decide) o7.1 o7.2 (by decide) (by decide) (fun c9 => ?_) (fun c9 => ?_)
      · have hw := hwt c9
        refine r_bipush hC dX12_mostOf_58 (by decide) ?_
        exact hQ _ _ _ dX12_mostOf_60 hw
      · have hw := hwf c9
        refine r_bipush hC dX12_mostOf_53 (by decide) ?_
        refine r_goto hC 60 dX12_mostOf_55 (by decide) ?_
        exact hQ _ _ _ dX12_mostOf_60 hw
    · have hw := hwf c6
      refine r_bipush hC dX12_mostOf_42 (by decide) ?_
      refine r_goto hC 60 dX12_mostOf_44 (by decide) ?_
      exact hQ _ _ _ dX12_mostOf_60 hw
  · have hw := hwf c3
    refine r_iload_n hC dX12_mostOf_6 rfl rfl ?_
    refine r_iconst hC dX12_mostOf_7 ?_
    obtain ⟨o10, hw⟩ := hw
    refine r_irem hC dX12_mostOf_8 o10.1 o10.2 (by decide) (by decide) ?_
    refine r_iconst hC dX12_mostOf_9 ?_
    obtain ⟨hwt, hwf⟩ := hw
    refine r_icmp_ne hC 19 dX12_mostOf_10 (by decide) (by omega) (by omega) (by decide) (by decide) (fun c13 => ?_) (fun c13 => ?_)
    · have hw := hwt c13
      refine r_iload_n hC dX12_mostOf_19 rfl rfl ?_
      refine r_iconst hC dX12_mostOf_20 ?_
      obtain ⟨o14, hw⟩ := hw
      refine r_irem hC dX12_mostOf_21 o14.1 o14.2 (by decide) (by decide) ?_
      refine r_iconst hC dX12_mostOf_22 ?_
      obtain ⟨hwt, hwf⟩ := hw
      refine r_icmp_ne hC 31 dX12_mostOf_23 (by decide) (by omega) (by omega) (by decide) (by decide) (fun c17 => ?_) (fun c17 => ?_)
      · have hw := hwt c17
        refine r_bipush hC dX12_mostOf_31 (by decide) ?_
        refine r_goto hC 60 dX12_mostOf_33 (by decide) ?_
        exact hQ _ _ _ dX12_mostOf_60 hw
      · have hw := hwf c17
        refine r_bipush hC dX12_mostOf_26 (by decide) ?_
        refine r_goto hC 60 dX12_mostOf_28 (by decide) ?_
        exact hQ _ _ _ dX12_mostOf_60 hw
    · have hw := hwf c13
      refine r_sipush hC dX12_mostOf_13 (by decide) ?_
      refine r_goto hC 60 dX12_mostOf_16 (by decide) ?_
      exact hQ _ _ _ dX12_mostOf_60 hw
set_option maxRecDepth 100000 in
set_option maxHeartbeats 4000000 in
theorem d_m_mostOf {l : Launch} {D : va_G} {aC : Nat → ClassId} {ad : Nat → Nat} {M : Mem} {x0 : Int} {Q : Int → Prop} (hw : w_m_mostOf M x0 Q) : Does l D aC ad yX12_mostOf cX12_mostOf 1 (some .int) 0 0 [vI x0] M (qI M Q) :=
  Does.of (by decide) (Nat.le_of_ble_eq_true rfl) (fun p e R s m args below meth c hC => r_subk (s_m_mostOf hC (fun pc L z d h => r_iret hC d ⟨rfl, ⟨z, rfl, h⟩⟩) hw) ⟨rfl, trivial⟩)
theorem dd_12_fails : yX12_fails.cls ≠ "java/lang/invoke/MethodHandle" ∧ yX12_fails.cls ≠ "java/lang/invoke/VarHandle" ∧ (parseMethodDescriptor yX12_fails.desc).map (fun d => d.parameters.length) = some 2 := by decide +kernel
/-- SoupSandModel.readNumber -/
def w_m_readNumber_j2 (Q : Int → Mem → Prop) (x4 : Int) (M : Mem) : Prop :=
  w_m_fails M 2 x4 (fun a1 M2 => Q a1 M2)
set_option maxRecDepth 100000 in
set_option maxHeartbeats 4000000 in
theorem s_m_readNumber_j2 {Q : Int → Mem → Prop} {x4 : Int} {M : Mem} (hC : rC p R s m args meth c cells slots D aC ad 5 cX12_readNumber RX12 1 25 (some .int)) (hQ : ∀ (pc : Nat) (L : List (Nat × RV)) (z : Int) (M : Mem), decode cX12_readNumber pc = .ok (.ireturn, 1) → Q z M → rG p l e R s m args below meth c cells slots Qs D aC ad 5 pc L [vI z] M) (hw : w_m_readNumber_j2 Q x4 M) : rG p l e R s m args below meth c cells slots Qs D aC ad 5 153 [(0, vR 12), (4, vI x4)] [] M := by
  unfold w_m_readNumber_j2 at hw
  refine r_aload_n hC dX12_readNumber_153 rfl rfl ?_
  refine r_iconst hC dX12_readNumber_154 ?_
  refine r_iload hC dX12_readNumber_155 rfl ?_
  refine r_callV hC (d_m_fails hw) rfl kC12_fails km12_428 kI12_fails kS12_fails kN12 dd_12_fails ⟨Nat.le_of_ble_eq_true rfl, Nat.le_of_ble_eq_true rfl⟩ rfl (Nat.le_of_ble_eq_true rfl) dX12_readNumber_157 (fun r M' hp => ?_)
  obtain ⟨a1, rfl, hw⟩ := hp
  try dsimp only at hw
  refine r_goto hC 164 dX12_readNumber_160 (by decide) ?_
  exact hQ _ _ _ _ dX12_readNumber_164 hw
def w_m_readNumber_j1 (Q : Int → Mem → Prop) (x1 : Int) (x2 : Int) (x4 : Int) (M : Mem) : Prop :=
  ∀ a1 : Int, a1 = M 12 62 → 0 ≤ a1 → a1 ≤ 200 → (-2147483648 ≤ a1 - x4 ∧ a1 - x4 ≤ 2147483647) ∧ ((3 < a1 - x4 → w_m_readNumber_j2 Q x4 M) ∧ (¬ (3 < a1 - x4) → ∀ a6 : Int, a6 = M 12 65 → 0 ≤ a6 → a6 ≤ 200000 → (-2147483648 ≤ x1 ∧ x1 ≤ 2147483647) ∧ ((-2147483648 ≤ x2 ∧ x2 ≤ 2147483647) ∧ (w_m_in M a6 x1 x2 (fun a11 => (-2147483648 ≤ a11 ∧ a11 ≤ 2147483647) ∧ ((¬ (a11 = 0) → Q 0 M) ∧ (a11 = 0 → w_m_readNumber_j2 Q x4 M)))))))
set_option maxRecDepth 100000 in
set_option maxHeartbeats 4000000 in
theorem s_m_readNumber_j1 {Q : Int → Mem → Prop} {x1 : Int} {x2 : Int} {x4 : Int} {M : Mem} (hC : rC p R s m args meth c cells slots D aC ad 5 cX12_readNumber RX12 1 25 (some .int)) (hQ : ∀ (pc : Nat) (L : List (Nat × RV)) (z : Int) (M : Mem), decode cX12_readNumber pc = .ok (.ireturn, 1) → Q z M → rG p l e R s m args below meth c cells slots Qs D aC ad 5 pc L [vI z] M) (hw : w_m_readNumber_j1 Q x1 x2 x4 M) : rG p l e R s m args below meth c cells slots Qs D aC ad 5 127 [(0, vR 12), (1, vI x1), (2, vI x2), (4, vI x4)] [] M := by
  unfold w_m_readNumber_j1 at hw
  refine r_aload_n hC dX12_readNumber_127 rfl rfl ?_
  refine r_getI hC 62 rfl (by decide) kf12_395 rfl rfl dX12_readNumber_128 (fun b2 b2' => ?_)
  replace hw := hw _ rfl b2 b2'
  refine r_iload hC dX12_readNumber_131 rfl ?_
  refine r_isub hC dX12_readNumber_133 ?_
  refine r_iconst hC dX12_readNumber_134 ?_
  obtain ⟨o3, hw⟩ := hw
  obtain ⟨hwt, hwf⟩ := hw
  refine r_icmp_gt hC 153 dX12_readNumber_135 (by decide) o3.1 o3.2 (by decide) (by decide) (fun c5 => ?_) (fun c5 => ?_)
  · have hw := hwt c5
    exact r_subk (s_m_readNumber_j2 hC hQ hw) ⟨rfl, rfl, trivial⟩
  · have hw := hwf c5
    refine r_aload_n hC dX12_readNumber_138 rfl rfl ?_
    refine r_getI hC 65 rfl (by decide) kf12_431 rfl rfl dX12_readNumber_139 (fun b7 b7' => ?_)
    replace hw := hw _ rfl b7 b7'
    refine r_i2l hC dX12_readNumber_142 (by omega) (by omega) ?_
    refine r_iload_n hC dX12_readNumber_143 rfl rfl ?_
    obtain ⟨o9, hw⟩ := hw
    refine r_i2l hC dX12_readNumber_144 o9.1 o9.2 ?_
    refine r_iload_n hC dX12_readNumber_145 rfl rfl ?_
    obtain ⟨o10, hw⟩ := hw
    refine r_i2l hC dX12_readNumber_146 o10.1 o10.2 ?_
    refine r_callS hC (d_m_in hw) kC12_in km12_165 kT12_in kN12 dd_12_in ⟨Nat.le_of_ble_eq_true rfl, Nat.le_of_ble_eq_true rfl⟩ rfl (Nat.le_of_ble_eq_true rfl) dX12_readNumber_147 (fun r M' hp => ?_)
    obtain ⟨rfl, a11, rfl, hw⟩ := hp
    try dsimp only at hw
    obtain ⟨o12, hw⟩ := hw
    obtain ⟨hwt, hwf⟩ := hw
    refine r_if_ne hC 163 dX12_readNumber_150 (by decide) o12.1 o12.2 (fun c14 => ?_) (fun c14 => ?_)
    · have hw := hwt c14
      refine r_iconst hC dX12_readNumber_163 ?_
      exact hQ _ _ _ _ dX12_readNumber_164 hw
    · have hw := hwf c14
      exact r_subk (s_m_readNumber_j2 hC hQ hw) ⟨rfl, rfl, trivial⟩
def w_m_readNumber_j0 (Q : Int → Mem → Prop) (X40 : Mem → Prop) (x1 : Int) (x2 : Int) (x4 : Int) (s1 : Int) (M : Mem) : Prop :=
  (0 ≤ s1 ∧ s1 ≤ 200000) ∧ (∀ M2 : Mem, M2 = mset M 12 65 s1 → ∀ a3 : Int, a3 = M2 12 62 → 0 ≤ a3 → a3 ≤ 200 → (0 ≤ a3 + 1 ∧ a3 + 1 ≤ 200) ∧ (∀ M6 : Mem, M6 = mset M2 12 62 (a3 + 1) → X40 M6))
set_option maxRecDepth 100000 in
set_option maxHeartbeats 4000000 in
theorem s_m_readNumber_j0 {Q : Int → Mem → Prop} {X40 : Mem → Prop} {x1 : Int} {x2 : Int} {x4 : Int} {s1 : Int} {M : Mem} (hC : rC p R s m args meth c cells slots D aC ad 5 cX12_readNumber RX12 1 25 (some .int)) (hQ : ∀ (pc : Nat) (L : List (Nat × RV)) (z : Int) (M : Mem), decode cX12_readNumber pc = .ok (.ireturn, 1) → Q z M → rG p l e R s m args below meth c cells slots Qs D aC ad 5 pc L [vI z] M) (hX40 : ∀ (M : Mem), X40 M → rG p l e R s m args below meth c cells slots Qs D aC ad 5 40 [(0, vR 12), (1, vI x1), (2, vI x2), (4, vI x4)] [] M) (hw : w_m_readNumber_j0 Q X40 x1 x2 x4 s1 M) : rG p l e R s m args below meth c cells slots Qs D aC ad 5 111 [(0, vR 12), (1, vI x1), (2, vI x2), (4, vI x4)] [vI s1, vR 12] M := by
  unfold w_m_readNumber_j0 at hw
  obtain ⟨o1, hw⟩ := hw
  refine r_putI hC 65 rfl (by decide) kf12_431 rfl rfl o1.1 o1.2 dX12_readNumber_111 ?_
  replace hw := hw _ rfl
  refine r_aload_n hC dX12_readNumber_114 rfl rfl ?_
  refine r_dup hC dX12_readNumber_115 rfl ?_
  refine r_getI hC 62 rfl (by decide) kf12_395 rfl rfl dX12_readNumber_116 (fun b4 b4' => ?_)
  replace hw := hw _ rfl b4 b4'
  refine r_iconst hC dX12_readNumber_119 ?_
  refine r_iadd hC dX12_readNumber_120 ?_
  obtain ⟨o5, hw⟩ := hw
  refine r_putI hC 62 rfl (by decide) kf12_395 rfl rfl o5.1 o5.2 dX12_readNumber_121 ?_
  replace hw := hw _ rfl
  refine r_goto hC 40 dX12_readNumber_124 (by decide) ?_
  exact r_subk (hX40 _ hw) ⟨rfl, rfl, rfl, rfl, trivial⟩
def w_m_readNumber_B0 (Q : Int → Mem → Prop) (x1 : Int) (x2 : Int) (x4 : Int) (X40 : Mem → Prop) (M : Mem) : Prop :=
  ∀ a1 : Int, a1 = M 12 62 → 0 ≤ a1 → a1 ≤ 200 → ∀ a3 : Int, a3 = M 12 60 → 0 ≤ a3 → a3 ≤ 200 → (a3 ≤ a1 → w_m_readNumber_j1 Q x1 x2 x4 M) ∧ (¬ (a3 ≤ a1) → ∀ a8 : Int, a8 = M 12 62 → 0 ≤ a8 → a8 ≤ 200 → (0 ≤ a8 ∧ a8 < 200) ∧ (∀ a11 : Int, a11 = M 98 a8 → 0 ≤ a11 → a11 ≤ 255 → w_m_in M a11 48 57 (fun a14 => (-2147483648 ≤ a14 ∧ a14 ≤ 2147483647) ∧ ((a14 = 0 → w_m_readNumber_j1 Q x1 x2 x4 M) ∧ (¬ (a14 = 0) → ∀ a18 : Int, a18 = M 12 65 → 0 ≤ a18 → a18 ≤ 200000 → (a18 ≤ 10000 → ∀ a23 : Int, a23 = M 12 65 → 0 ≤ a23 → a23 ≤ 200000 → ∀ a25 : Int, a25 = M 12 62 → 0 ≤ a25 → a25 ≤ 200 → (0 ≤ a25 ∧ a25 < 200) ∧ (∀ a28 : Int, a28 = M 98 a25 → 0 ≤ a28 → a28 ≤ 255 → w_m_readNumber_j0 Q X40 x1 x2 x4 (((10 * a23) + a28) - 48) M)) ∧ (¬ (a18 ≤ 10000) → ∀ a30 : Int, a30 = M 12 65 → 0 ≤ a30 → a30 ≤ 200000 → w_m_readNumber_j0 Q X40 x1 x2 x4 a30 M))))))
set_option maxRecDepth 100000 in
set_option maxHeartbeats 4000000 in
theorem s_m_readNumber_B0 {Q : Int → Mem → Prop} {x1 : Int} {x2 : Int} {x4 : Int} {X40 : Mem → Prop} {M : Mem} (hC : rC p R s m args meth c cells slots D aC ad 5 cX12_readNumber RX12 1 25 (some .int)) (hQ : ∀ (pc : Nat) (L : List (Nat × RV)) (z : Int) (M : Mem), decode cX12_readNumber pc = .ok (.ireturn, 1) → Q z M → rG p l e R s m args below meth c cells slots Qs D aC ad 5 pc L [vI z] M) (hX40 : ∀ (M : Mem), X40 M → rG p l e R s m args below meth c cells slots Qs D aC ad 5 40 [(0, vR 12), (1, vI x1), (2, vI x2), (4, vI x4)] [] M) (hw : w_m_readNumber_B0 Q x1 x2 x4 X40 M) : rG p l e R s m args below meth c cells slots Qs D aC ad 5 40 [(0, vR 12), (1, vI x1), (2, vI x2), (4, vI x4)] [] M := by
  unfold w_m_readNumber_B0 at hw
  refine r_aload_n hC dX12_readNumber_40 rfl rfl ?_
  refine r_getI hC 62 rfl (by decide) kf12_395 rfl rfl dX12_readNumber_41 (fun b2 b2' => ?_)
  replace hw := hw _ rfl b2 b2'
  refine r_aload_n hC dX12_readNumber_44 rfl rfl ?_
  refine r_getI hC 60 rfl (by decide) kf12_222 rfl rfl dX12_readNumber_45 (fun b4 b4' => ?_)
  replace hw := hw _ rfl b4 b4'
  obtain ⟨hwt, hwf⟩ := hw
  refine r_icmp_ge hC 127 dX12_readNumber_48 (by decide) (by omega) (by omega) (by omega) (by omega) (fun c7 => ?_) (fun c7 => ?_)
  · have hw := hwt c7
    exact r_subk (s_m_readNumber_j1 hC hQ hw) ⟨rfl, rfl, rfl, rfl, trivial⟩
  · have hw := hwf c7
    refine r_aload_n hC dX12_readNumber_51 rfl rfl ?_
    refine r_getR hC 59 rfl (by decide) kf12_147 rfl rfl dX12_readNumber_52 ?_
    refine r_aload_n hC dX12_readNumber_55 rfl rfl ?_
    refine r_getI hC 62 rfl (by decide) kf12_395 rfl rfl dX12_readNumber_56 (fun b9 b9' => ?_)
    replace hw := hw _ rfl b9 b9'
    obtain ⟨o10, hw⟩ := hw
    refine r_iald hC rfl o10.1 o10.2 (by decide) (by decide) dX12_readNumber_59 (fun b12 b12' => ?_)
    replace hw := hw _ rfl b12 b12'
    refine r_i2l hC dX12_readNumber_60 (by omega) (by omega) ?_
    refine r_ldc2 hC (48) dX12_readNumber_61 kL12_424 (by decide) ?_
    refine r_ldc2 hC (57) dX12_readNumber_64 kL12_426 (by decide) ?_
    refine r_callS hC (d_m_in hw) kC12_in km12_165 kT12_in kN12 dd_12_in ⟨Nat.le_of_ble_eq_true rfl, Nat.le_of_ble_eq_true rfl⟩ rfl (Nat.le_of_ble_eq_true rfl) dX12_readNumber_67 (fun r M' hp => ?_)
    obtain ⟨rfl, a14, rfl, hw⟩ := hp
    try dsimp only at hw
    obtain ⟨o15, hw⟩ := hw
    obtain ⟨hwt, hwf⟩ := hw
    refine r_if_eq hC 127 dX12_readNumber_70 (by decide) o15.1 o15.2 (fun c17 => ?_) (fun c17 => ?_)
    · have hw := hwt c17
      exact r_subk (s_m_readNumber_j1 hC hQ hw) ⟨rfl, rfl, rfl, rfl, trivial⟩
    · have hw := hwf c17
      refine r_aload_n hC dX12_readNumber_73 rfl rfl ?_
      refine r_aload_n hC dX12_readNumber_74 rfl rfl ?_
      refine r_getI hC 65 rfl (by decide) kf12_431 rfl rfl dX12_readNumber_75 (fun b19 b19' => ?_)
      replace hw := hw _ rfl b19 b19'
      refine r_sipush hC dX12_readNumber_78 (by decide) ?_
      obtain ⟨hwt, hwf⟩ := hw
      refine r_icmp_le hC 91 dX12_readNumber_81 (by decide) (by omega) (by omega) (by decide) (by decide) (fun c22 => ?_) (fun c22 => ?_)
      · have hw := hwt c22
        refine r_bipush hC dX12_readNumber_91 (by decide) ?_
        refine r_aload_n hC dX12_readNumber_93 rfl rfl ?_
        refine r_getI hC 65 rfl (by decide) kf12_431 rfl rfl dX12_readNumber_94 (fun b24 b24' => ?_)
        replace hw := hw _ rfl b24 b24'
        refine r_imul hC dX12_readNumber_97 ?_
        refine r_aload_n hC dX12_readNumber_98 rfl rfl ?_
        refine r_getR hC 59 rfl (by decide) kf12_147 rfl rfl dX12_readNumber_99 ?_
        refine r_aload_n hC dX12_readNumber_102 rfl rfl ?_
        refine r_getI hC 62 rfl (by decide) kf12_395 rfl rfl dX12_readNumber_103 (fun b26 b26' => ?_)
        replace hw := hw _ rfl b26 b26'
        obtain ⟨o27, hw⟩ := hw
        refine r_iald hC rfl o27.1 o27.2 (by decide) (by decide) dX12_readNumber_106 (fun b29 b29' => ?_)
        replace hw := hw _ rfl b29 b29'
        refine r_iadd hC dX12_readNumber_107 ?_
        refine r_bipush hC dX12_readNumber_108 (by decide) ?_
        refine r_isub hC dX12_readNumber_110 ?_
        exact r_subk (s_m_readNumber_j0 hC hQ hX40 hw) ⟨rfl, rfl, rfl, rfl, trivial⟩
      · have hw := hwf c22
        refine r_aload_n hC dX12_readNumber_84 rfl rfl ?_
        refine r_getI hC 65 rfl (by decide) kf12_431 rfl rfl dX12_readNumber_85 (fun b31 b31' => ?_)
        replace hw := hw _ rfl b31 b31'
        refine r_goto hC 111 dX12_readNumber_88 (by decide) ?_
        exact r_subk (s_m_readNumber_j0 hC hQ hX40 hw) ⟨rfl, rfl, rfl, rfl, trivial⟩
def w_m_readNumber_L0 (Q : Int → Mem → Prop) (x1 : Int) (x2 : Int) (x4 : Int) (M : Mem) : Prop :=
  ∀ X : Mem → Prop, (∀ (M : Mem), w_m_readNumber_B0 Q x1 x2 x4 X M → X M) → X M
set_option maxRecDepth 100000 in
set_option maxHeartbeats 4000000 in
theorem s_m_readNumber_L0 {Q : Int → Mem → Prop} {x1 : Int} {x2 : Int} {x4 : Int} {M : Mem} (hC : rC p R s m args meth c cells slots D aC ad 5 cX12_readNumber RX12 1 25 (some .int)) (hQ : ∀ (pc : Nat) (L : List (Nat × RV)) (z : Int) (M : Mem), decode cX12_readNumber pc = .ok (.ireturn, 1) → Q z M → rG p l e R s m args below meth c cells slots Qs D aC ad 5 pc L [vI z] M) (hw : w_m_readNumber_L0 Q x1 x2 x4 M) : rG p l e R s m args below meth c cells slots Qs D aC ad 5 40 [(0, vR 12), (1, vI x1), (2, vI x2), (4, vI x4)] [] M := by
  unfold w_m_readNumber_L0 at hw
  exact hw (fun M => rG p l e R s m args below meth c cells slots Qs D aC ad 5 40 [(0, vR 12), (1, vI x1), (2, vI x2), (4, vI x4)] [] M) (fun M hb => s_m_readNumber_B0 hC hQ (fun _ h => h) hb)
def w_m_readNumber (M : Mem) (x1 : Int) (x2 : Int) (Q : Int → Mem → Prop) : Prop :=
  w_m_here M (fun a1 M2 => (-2147483648 ≤ a1 ∧ a1 ≤ 2147483647) ∧ (w_m_in M2 a1 48 57 (fun a4 => (-2147483648 ≤ a4 ∧ a4 ≤ 2147483647) ∧ ((¬ (a4 = 0) → ∀ a8 : Int, a8 = M2 12 62 → 0 ≤ a8 → a8 ≤ 200 → ∀ M11 : Mem, M11 = mset M2 12 65 0 → w_m_readNumber_L0 Q x1 x2 a8 M11) ∧ (a4 = 0 → ∀ a12 : Int, a12 = M2 12 62 → 0 ≤ a12 → a12 ≤ 200 → w_m_fails M2 1 a12 (fun a14 M15 => Q a14 M15))))))
set_option maxRecDepth 100000 in
set_option maxHeartbeats 4000000 in
theorem s_m_readNumber {M : Mem} {x1 : Int} {x2 : Int} {Q : Int → Mem → Prop} (hC : rC p R s m args meth c cells slots D aC ad 5 cX12_readNumber RX12 1 25 (some .int)) (hQ : ∀ (pc : Nat) (L : List (Nat × RV)) (z : Int) (M : Mem), decode cX12_readNumber pc = .ok (.ireturn, 1) → Q z M → rG p l e R s m args below meth c cells slots Qs D aC ad 5 pc L [vI z] M) (hw : w_m_readNumber M x1 x2 Q) : rG p l e R s m args below meth c cells slots Qs D aC ad 5 0 [(0, vR 12), (1, vI x1), (2, vI x2)] [] M := by
  unfold w_m_readNumber at hw
  refine r_aload_n hC dX12_readNumber_0 rfl rfl ?_
  refine r_callV hC (d_m_here hw) rfl kC12_here km12_398 kI12_here kS12_here kN12 dd_12_here ⟨Nat.le_of_ble_eq_true rfl, Nat.le_of_ble_eq_true rfl⟩ rfl (Nat.le_of_ble_eq_true rfl) dX12_readNumber_1 (fun r M' hp => ?_)
  obtain ⟨a1, rfl, hw⟩ := hp
  try dsimp only at hw
  refine r_istore_n hC dX12_readNumber_4 rfl (by decide) ?_
  refine r_iload_n hC dX12_readNumber_5 rfl rfl ?_
  obtain ⟨o3, hw⟩ := hw
  refine r_i2l hC dX12_readNumber_6 o3.1 o3.2 ?_
  refine r_ldc2 hC (48) dX12_readNumber_7 kL12_424 (by decide) ?_
  refine r_ldc2 hC (57) dX12_readNumber_10 kL12_426 (by decide) ?_
  refine r_callS hC (d_m_in hw) kC12_in km12_165 kT12_in kN12 dd_12_in ⟨Nat.le_of_ble_eq_true rfl, Nat.le_of_ble_eq_true rfl⟩ rfl (Nat.le_of_ble_eq_true rfl) dX12_readNumber_13 (fun r M' hp => ?_)
  obtain ⟨rfl, a4, rfl, hw⟩ := hp
  try dsimp only at hw
  obtain ⟨o5, hw⟩ := hw
  obtain ⟨hwt, hwf⟩ := hw
  refine r_if_ne hC 29 dX12_readNumber_16 (by decide) o5.1 o5.2 (fun c7 => ?_) (fun c7 => ?_)
  · have hw := hwt c7
    refine r_aload_n hC dX12_readNumber_29 rfl rfl ?_
    refine r_getI hC 62 rfl (by decide) kf12_395 rfl rfl dX12_readNumber_30 (fun b9 b9' => ?_)
    replace hw := hw _ rfl b9 b9'
    refine r_istore hC dX12_readNumber_33 (by decide) ?_
    refine r_aload_n hC dX12_readNumber_35 rfl rfl ?_
    refine r_iconst hC dX12_readNumber_36 ?_
    refine r_putI hC 65 rfl (by decide) kf12_431 rfl rfl (by decide) (by decide) dX12_readNumber_37 ?_
    replace hw := hw _ rfl
    exact r_subk (s_m_readNumber_L0 hC hQ hw) ⟨rfl, rfl, rfl, rfl, trivial⟩
  · have hw := hwf c7
    refine r_aload_n hC dX12_readNumber_19 rfl rfl ?_
    refine r_iconst hC dX12_readNumber_20 ?_
    refine r_aload_n hC dX12_readNumber_21 rfl rfl ?_
    refine r_getI hC 62 rfl (by decide) kf12_395 rfl rfl dX12_readNumber_22 (fun b13 b13' => ?_)
    replace hw := hw _ rfl b13 b13'
    refine r_callV hC (d_m_fails hw) rfl kC12_fails km12_428 kI12_fails kS12_fails kN12 dd_12_fails ⟨Nat.le_of_ble_eq_true rfl, Nat.le_of_ble_eq_true rfl⟩ rfl (Nat.le_of_ble_eq_true rfl) dX12_readNumber_25 (fun r M' hp => ?_)
    obtain ⟨a14, rfl, hw⟩ := hp
    try dsimp only at hw
    exact hQ _ _ _ _ dX12_readNumber_28 hw
set_option maxRecDepth 100000 in
set_option maxHeartbeats 4000000 in
theorem d_m_readNumber {l : Launch} {D : va_G} {aC : Nat → ClassId} {ad : Nat → Nat} {M : Mem} {x1 : Int} {x2 : Int} {Q : Int → Mem → Prop} (hw : w_m_readNumber M x1 x2 Q) : Does l D aC ad yX12_readNumber cX12_readNumber 5 (some .int) 1 25 [vR 12, vI x1, vI x2] M (pI Q) :=
  Does.of (by decide) (Nat.le_of_ble_eq_true rfl) (fun p e R s m args below meth c hC => r_subk (s_m_readNumber hC (fun pc L z M d h => r_iret hC d ⟨z, rfl, h⟩) hw) ⟨rfl, rfl, rfl, trivial⟩)
theorem dd_12_leastOf : yX12_leastOf.cls ≠ "java/lang/invoke/MethodHandle" ∧ yX12_leastOf.cls ≠ "java/lang/invoke/VarHandle" ∧ (parseMethodDescriptor yX12_leastOf.desc).map (fun d => d.parameters.length) = some 1 := by decide +kernel
theorem dd_12_mostOf : yX12_mostOf.cls ≠ "java/lang/invoke/MethodHandle" ∧ yX12_mostOf.cls ≠ "java/lang/invoke/VarHandle" ∧ (parseMethodDescriptor yX12_mostOf.desc).map (fun d => d.parameters.length) = some 1 := by decide +kernel
theorem dd_12_readNumber : yX12_readNumber.cls ≠ "java/lang/invoke/MethodHandle" ∧ yX12_readNumber.cls ≠ "java/lang/invoke/VarHandle" ∧ (parseMethodDescriptor yX12_readNumber.desc).map (fun d => d.parameters.length) = some 2 := by decide +kernel
/-- SoupSandModel.readRule -/
def w_m_readRule_j0 (Q : Int → Mem → Prop) (x2 : Int) (s1 : Int) (s2 : Int) (M : Mem) : Prop :=
  ((0 ≤ s1 ∧ s1 < 25) ∧ (0 ≤ s2 ∧ s2 ≤ 999)) ∧ (∀ M2 : Mem, M2 = mset M 65 s1 s2 → Q x2 M2)
set_option maxRecDepth 100000 in
set_option maxHeartbeats 4000000 in
theorem s_m_readRule_j0 {Q : Int → Mem → Prop} {x2 : Int} {s1 : Int} {s2 : Int} {M : Mem} (hC : rC p R s m args meth c cells slots D aC ad 3 cX12_readRule RX12 2 49 (some .int)) (hQ : ∀ (pc : Nat) (L : List (Nat × RV)) (z : Int) (M : Mem), decode cX12_readRule pc = .ok (.ireturn, 1) → Q z M → rG p l e R s m args below meth c cells slots Qs D aC ad 3 pc L [vI z] M) (hw : w_m_readRule_j0 Q x2 s1 s2 M) : rG p l e R s m args below meth c cells slots Qs D aC ad 3 35 [(2, vI x2)] [vI s2, vI s1, vR 65] M := by
  unfold w_m_readRule_j0 at hw
  obtain ⟨o1, hw⟩ := hw
  refine r_iast hC rfl o1.1.1 o1.1.2 (by decide) (by decide) o1.2.1 o1.2.2 dX12_readRule_35 ?_
  replace hw := hw _ rfl
  refine r_iload_n hC dX12_readRule_36 rfl rfl ?_
  exact hQ _ _ _ _ dX12_readRule_37 hw
def w_m_readRule (M : Mem) (x1 : Int) (Q : Int → Mem → Prop) : Prop :=
  w_m_leastOf M x1 (fun a1 => w_m_mostOf M x1 (fun a2 => w_m_readNumber M a1 a2 (fun a3 M4 => (-2147483648 ≤ a3 ∧ a3 ≤ 2147483647) ∧ ((¬ (a3 = 0) → (0 ≤ x1 ∧ x1 < 25) ∧ (∀ a9 : Int, a9 = M4 65 x1 → 0 ≤ a9 → a9 ≤ 999 → w_m_readRule_j0 Q a3 x1 a9 M4)) ∧ (a3 = 0 → ∀ a11 : Int, a11 = M4 12 65 → 0 ≤ a11 → a11 ≤ 200000 → w_m_readRule_j0 Q a3 x1 a11 M4)))))
set_option maxRecDepth 100000 in
set_option maxHeartbeats 4000000 in
theorem s_m_readRule {M : Mem} {x1 : Int} {Q : Int → Mem → Prop} (hC : rC p R s m args meth c cells slots D aC ad 3 cX12_readRule RX12 2 49 (some .int)) (hQ : ∀ (pc : Nat) (L : List (Nat × RV)) (z : Int) (M : Mem), decode cX12_readRule pc = .ok (.ireturn, 1) → Q z M → rG p l e R s m args below meth c cells slots Qs D aC ad 3 pc L [vI z] M) (hw : w_m_readRule M x1 Q) : rG p l e R s m args below meth c cells slots Qs D aC ad 3 0 [(0, vR 12), (1, vI x1)] [] M := by
  unfold w_m_readRule at hw
  refine r_aload_n hC dX12_readRule_0 rfl rfl ?_
  refine r_iload_n hC dX12_readRule_1 rfl rfl ?_
  refine r_callS hC (d_m_leastOf hw) kC12_leastOf km12_434 kT12_leastOf kN12 dd_12_leastOf ⟨Nat.le_of_ble_eq_true rfl, Nat.le_of_ble_eq_true rfl⟩ rfl (Nat.le_of_ble_eq_true rfl) dX12_readRule_2 (fun r M' hp => ?_)
  obtain ⟨rfl, a1, rfl, hw⟩ := hp
  try dsimp only at hw
  refine r_iload_n hC dX12_readRule_5 rfl rfl ?_
  refine r_callS hC (d_m_mostOf hw) kC12_mostOf km12_437 kT12_mostOf kN12 dd_12_mostOf ⟨Nat.le_of_ble_eq_true rfl, Nat.le_of_ble_eq_true rfl⟩ rfl (Nat.le_of_ble_eq_true rfl) dX12_readRule_6 (fun r M' hp => ?_)
  obtain ⟨rfl, a2, rfl, hw⟩ := hp
  try dsimp only at hw
  refine r_callV hC (d_m_readNumber hw) rfl kC12_readNumber km12_440 kI12_readNumber kS12_readNumber kN12 dd_12_readNumber ⟨Nat.le_of_ble_eq_true rfl, Nat.le_of_ble_eq_true rfl⟩ rfl (Nat.le_of_ble_eq_true rfl) dX12_readRule_9 (fun r M' hp => ?_)
  obtain ⟨a3, rfl, hw⟩ := hp
  try dsimp only at hw
  refine r_istore_n hC dX12_readRule_12 rfl (by decide) ?_
  refine r_aload_n hC dX12_readRule_13 rfl rfl ?_
  refine r_getR hC 13 rfl (by decide) kf12_46 rfl rfl dX12_readRule_14 ?_
  refine r_iload_n hC dX12_readRule_17 rfl rfl ?_
  refine r_iload_n hC dX12_readRule_18 rfl rfl ?_
  obtain ⟨o5, hw⟩ := hw
  obtain ⟨hwt, hwf⟩ := hw
  refine r_if_ne hC 29 dX12_readRule_19 (by decide) o5.1 o5.2 (fun c7 => ?_) (fun c7 => ?_)
  · have hw := hwt c7
    refine r_aload_n hC dX12_readRule_29 rfl rfl ?_
    refine r_getR hC 13 rfl (by decide) kf12_46 rfl rfl dX12_readRule_30 ?_
    refine r_iload_n hC dX12_readRule_33 rfl rfl ?_
    obtain ⟨o8, hw⟩ := hw
    refine r_iald hC rfl o8.1 o8.2 (by decide) (by decide) dX12_readRule_34 (fun b10 b10' => ?_)
    replace hw := hw _ rfl b10 b10'
    exact r_subk (s_m_readRule_j0 hC hQ hw) ⟨rfl, trivial⟩
  · have hw := hwf c7
    refine r_aload_n hC dX12_readRule_22 rfl rfl ?_
    refine r_getI hC 65 rfl (by decide) kf12_431 rfl rfl dX12_readRule_23 (fun b12 b12' => ?_)
    replace hw := hw _ rfl b12 b12'
    refine r_goto hC 35 dX12_readRule_26 (by decide) ?_
    exact r_subk (s_m_readRule_j0 hC hQ hw) ⟨rfl, trivial⟩
set_option maxRecDepth 100000 in
set_option maxHeartbeats 4000000 in
theorem d_m_readRule {l : Launch} {D : va_G} {aC : Nat → ClassId} {ad : Nat → Nat} {M : Mem} {x1 : Int} {Q : Int → Mem → Prop} (hw : w_m_readRule M x1 Q) : Does l D aC ad yX12_readRule cX12_readRule 3 (some .int) 2 49 [vR 12, vI x1] M (pI Q) :=
  Does.of (by decide) (Nat.le_of_ble_eq_true rfl) (fun p e R s m args below meth c hC => r_subk (s_m_readRule hC (fun pc L z M d h => r_iret hC d ⟨z, rfl, h⟩) hw) ⟨rfl, rfl, trivial⟩)
/-- SoupSandModel.nameOf -/
def w_m_nameOf (M : Mem) (Q : Int → Prop) : Prop :=
  ∀ a1 : Int, a1 = M 12 63 → -1125899906842624 ≤ a1 → a1 ≤ 1125899906842624 → w_m_code M 103 114 111 119 0 0 (fun a3 => (-9223372036854775808 ≤ a3 ∧ a3 ≤ 9223372036854775807) ∧ ((¬ (a1 = a3) → ∀ a7 : Int, a7 = M 12 63 → -1125899906842624 ≤ a7 → a7 ≤ 1125899906842624 → w_m_code M 100 114 97 105 110 0 (fun a9 => (-9223372036854775808 ≤ a9 ∧ a9 ≤ 9223372036854775807) ∧ ((¬ (a7 = a9) → ∀ a13 : Int, a13 = M 12 63 → -1125899906842624 ≤ a13 → a13 ≤ 1125899906842624 → w_m_code M 112 97 115 115 0 0 (fun a15 => (-9223372036854775808 ≤ a15 ∧ a15 ≤ 9223372036854775807) ∧ ((¬ (a13 = a15) → ∀ a19 : Int, a19 = M 12 63 → -1125899906842624 ≤ a19 → a19 ≤ 1125899906842624 → w_m_code M 115 101 116 116 108 101 (fun a21 => (-9223372036854775808 ≤ a21 ∧ a21 ≤ 9223372036854775807) ∧ ((¬ (a19 = a21) → ∀ a25 : Int, a25 = M 12 63 → -1125899906842624 ≤ a25 → a25 ≤ 1125899906842624 → w_m_code M 104 111 108 100 0 0 (fun a27 => (-9223372036854775808 ≤ a27 ∧ a27 ≤ 9223372036854775807) ∧ ((¬ (a25 = a27) → Q (-1)) ∧ (a25 = a27 → Q 4)))) ∧ (a19 = a21 → Q 3)))) ∧ (a13 = a15 → Q 2)))) ∧ (a7 = a9 → Q 1)))) ∧ (a1 = a3 → Q 0)))
set_option maxRecDepth 100000 in
set_option maxHeartbeats 4000000 in
theorem s_m_nameOf {M : Mem} {Q : Int → Prop} (hC : rC p R s m args meth c cells slots D aC ad 1 cX12_nameOf RX12 1 27 (some .int)) (hQ : ∀ (pc : Nat) (L : List (Nat × RV)) (z : Int), decode cX12_nameOf pc = .ok (.ireturn, 1) → Q z → rG p l e R s m args below meth c cells slots Qs D aC ad 1 pc L [vI z] M) (hw : w_m_nameOf M Q) : rG p l e R s m args below meth c cells slots Qs D aC ad 1 0 [(0, vR 12)] [] M := by
  unfold w_m_nameOf at hw
  refine r_aload_n hC dX12_nameOf_0 rfl rfl ?_
  refine r_getJ hC 63 rfl (by decide) kf12_402 rfl rfl dX12_nameOf_1 (fun b2 b2' => ?_)
  replace hw := hw _ rfl b2 b2'
  refine r_bipush hC dX12_nameOf_4 (by decide) ?_
  refine r_bipush hC dX12_nameOf_6 (by decide) ?_
  refine r_bipush hC dX12_nameOf_8 (by decide) ?_
  refine r_bipush hC dX12_nameOf_10 (by decide) ?_
  refine r_iconst hC dX12_nameOf_12 ?_
  refine r_iconst hC dX12_nameOf_13 ?_
  refine r_callS hC (d_m_code hw) kC12_code km12_420 kT12_code kN12 dd_12_code ⟨Nat.le_of_ble_eq_true rfl, Nat.le_of_ble_eq_true rfl⟩ rfl (Nat.le_of_ble_eq_true rfl) dX12_nameOf_14 (fun r M' hp => ?_)
  obtain ⟨rfl, a3, rfl, hw⟩ := hp
  try dsimp only at hw
  obtain ⟨o5, hw⟩ := hw
  obtain ⟨hwt, hwf⟩ := hw
  refine r_lcmp_ne hC 25 dX12_nameOf_17 dX12_nameOf_18 (by decide) (by omega) (by omega) o5.1 o5.2 (fun c6 => ?_) (fun c6 => ?_)
  · have hw := hwt c6
    refine r_aload_n hC dX12_nameOf_25 rfl rfl ?_
    refine r_getJ hC 63 rfl (by decide) kf12_402 rfl rfl dX12_nameOf_26 (fun b8 b8' => ?_)
    replace hw := hw _ rfl b8 b8'
    refine r_bipush hC dX12_nameOf_29 (by decide) ?_
    refine r_bipush hC dX12_nameOf_31 (by decide) ?_
    refine r_bipush hC dX12_nameOf_33 (by decide) ?_
    refine r_bipush hC dX12_nameOf_35 (by decide) ?_
    refine r_bipush hC dX12_nameOf_37 (by decide) ?_
    refine r_iconst hC dX12_nameOf_39 ?_
    refine r_callS hC (d_m_code hw) kC12_code km12_420 kT12_code kN12 dd_12_code ⟨Nat.le_of_ble_eq_true rfl, Nat.le_of_ble_eq_true rfl⟩ rfl (Nat.le_of_ble_eq_true rfl) dX12_nameOf_40 (fun r M' hp => ?_)
    obtain ⟨rfl, a9, rfl, hw⟩ := hp
    try dsimp only at hw
    obtain ⟨o11, hw⟩ := hw
    obtain ⟨hwt, hwf⟩ := hw
    refine r_lcmp_ne hC 51 dX12_nameOf_43 dX12_nameOf_44 (by decide) (by omega) (by omega) o11.1 o11.2 (fun c12 => ?_) (fun c12 => ?_)
    · have hw := hwt c12
      refine r_aload_n hC dX12_nameOf_51 rfl rfl ?_
      refine r_getJ hC 63 rfl (by decide) kf12_402 rfl rfl dX12_nameOf_52 (fun b14 b14' => ?_)
      replace hw := hw _ rfl b14 b14'
      refine r_bipush hC dX12_nameOf_55 (by decide) ?_
      refine r_bipush hC dX12_nameOf_57 (by decide) ?_
      refine r_bipush hC dX12_nameOf_59 (by decide) ?_
      refine r_bipush hC dX12_nameOf_61 (by decide) ?_
      refine r_iconst hC dX12_nameOf_63 ?_
      refine r_iconst hC dX12_nameOf_64 ?_
      refine r_callS hC (d_m_code hw) kC12_code km12_420 kT12_code kN12 dd_12_code ⟨Nat.le_of_ble_eq_true rfl, Nat.le_of_ble_eq_true rfl⟩ rfl (Nat.le_of_ble_eq_true rfl) dX12_nameOf_65 (fun r M' hp => ?_)
      obtain ⟨rfl, a15, rfl, hw⟩ := hp
      try dsimp only at hw
      obtain ⟨o17, hw⟩ := hw
      obtain ⟨hwt, hwf⟩ := hw
      refine r_lcmp_ne hC 76 dX12_nameOf_68 dX12_nameOf_69 (by decide) (by omega) (by omega) o17.1 o17.2 (fun c18 => ?_) (fun c18 => ?_)
      · have hw := hwt c18
        refine r_aload_n hC dX12_nameOf_76 rfl rfl ?_
        refine r_getJ hC 63 rfl (by decide) kf12_402 rfl rfl dX12_nameOf_77 (fun b20 b20' => ?_)
        replace hw := hw _ rfl b20 b20'
        refine r_bipush hC dX12_nameOf_80 (by decide) ?_
        refine r_bipush hC dX12_nameOf_82 (by decide) ?_
        refine r_bipush hC dX12_nameOf_84 (by decide) ?_
        refine r_bipush hC dX12_nameOf_86 (by decide) ?_
        refine r_bipush hC dX12_nameOf_88 (by decide) ?_
        refine r_bipush hC dX12_nameOf_90 (by decide) ?_
        refine r_callS hC (d_m_code hw) kC12_code km12_420 kT12_code kN12 dd_12_code ⟨Nat.le_of_ble_eq_true rfl, Nat.le_of_ble_eq_true rfl⟩ rfl (Nat.le_of_ble_eq_true rfl) dX12_nameOf_92 (fun r M' hp => ?_)
        obtain ⟨rfl, a21, rfl, hw⟩ := hp
        try dsimp only at hw
        obtain ⟨o23, hw⟩ := hw
        obtain ⟨hwt, hwf⟩ := hw
        refine r_lcmp_ne hC 103 dX12_nameOf_95 dX12_nameOf_96 (by decide) (by omega) (by omega) o23.1 o23.2 (fun c24 => ?_) (fun c24 => ?_)
        · have hw := hwt c24
          refine r_aload_n hC dX12_nameOf_103 rfl rfl ?_
          refine r_getJ hC 63 rfl (by decide) kf12_402 rfl rfl dX12_nameOf_104 (fun b26 b26' => ?_)
          replace hw := hw _ rfl b26 b26'
          refine r_bipush hC dX12_nameOf_107 (by decide) ?_
          refine r_bipush hC dX12_nameOf_109 (by decide) ?_
          refine r_bipush hC dX12_nameOf_111 (by decide) ?_
          refine r_bipush hC dX12_nameOf_113 (by decide) ?_
          refine r_iconst hC dX12_nameOf_115 ?_
          refine r_iconst hC dX12_nameOf_116 ?_
          refine r_callS hC (d_m_code hw) kC12_code km12_420 kT12_code kN12 dd_12_code ⟨Nat.le_of_ble_eq_true rfl, Nat.le_of_ble_eq_true rfl⟩ rfl (Nat.le_of_ble_eq_true rfl) dX12_nameOf_117 (fun r M' hp => ?_)
          obtain ⟨rfl, a27, rfl, hw⟩ := hp
          try dsimp only at hw
          obtain ⟨o29, hw⟩ := hw
          obtain ⟨hwt, hwf⟩ := hw
          refine r_lcmp_ne hC 128 dX12_nameOf_120 dX12_nameOf_121 (by decide) (by omega) (by omega) o29.1 o29.2 (fun c30 => ?_) (fun c30 => ?_)
          · have hw := hwt c30
            refine r_iconst hC dX12_nameOf_128 ?_
            exact hQ _ _ _ dX12_nameOf_129 hw
          · have hw := hwf c30
            refine r_iconst hC dX12_nameOf_124 ?_
            refine r_goto hC 129 dX12_nameOf_125 (by decide) ?_
            exact hQ _ _ _ dX12_nameOf_129 hw
        · have hw := hwf c24
          refine r_iconst hC dX12_nameOf_99 ?_
          refine r_goto hC 129 dX12_nameOf_100 (by decide) ?_
          exact hQ _ _ _ dX12_nameOf_129 hw
      · have hw := hwf c18
        refine r_iconst hC dX12_nameOf_72 ?_
        refine r_goto hC 129 dX12_nameOf_73 (by decide) ?_
        exact hQ _ _ _ dX12_nameOf_129 hw
    · have hw := hwf c12
      refine r_iconst hC dX12_nameOf_47 ?_
      refine r_goto hC 129 dX12_nameOf_48 (by decide) ?_
      exact hQ _ _ _ dX12_nameOf_129 hw
  · have hw := hwf c6
    refine r_iconst hC dX12_nameOf_21 ?_
    refine r_goto hC 129 dX12_nameOf_22 (by decide) ?_
    exact hQ _ _ _ dX12_nameOf_129 hw
set_option maxRecDepth 100000 in
set_option maxHeartbeats 4000000 in
theorem d_m_nameOf {l : Launch} {D : va_G} {aC : Nat → ClassId} {ad : Nat → Nat} {M : Mem} {Q : Int → Prop} (hw : w_m_nameOf M Q) : Does l D aC ad yX12_nameOf cX12_nameOf 1 (some .int) 1 27 [vR 12] M (qI M Q) :=
  Does.of (by decide) (Nat.le_of_ble_eq_true rfl) (fun p e R s m args below meth c hC => r_subk (s_m_nameOf hC (fun pc L z d h => r_iret hC d ⟨rfl, ⟨z, rfl, h⟩⟩) hw) ⟨rfl, trivial⟩)
theorem dd_12_nameOf : yX12_nameOf.cls ≠ "java/lang/invoke/MethodHandle" ∧ yX12_nameOf.cls ≠ "java/lang/invoke/VarHandle" ∧ (parseMethodDescriptor yX12_nameOf.desc).map (fun d => d.parameters.length) = some 0 := by decide +kernel
theorem dd_12_readRule : yX12_readRule.cls ≠ "java/lang/invoke/MethodHandle" ∧ yX12_readRule.cls ≠ "java/lang/invoke/VarHandle" ∧ (parseMethodDescriptor yX12_readRule.desc).map (fun d => d.parameters.length) = some 1 := by decide +kernel
theorem dd_12_readWord : yX12_readWord.cls ≠ "java/lang/invoke/MethodHandle" ∧ yX12_readWord.cls ≠ "java/lang/invoke/VarHandle" ∧ (parseMethodDescriptor yX12_readWord.desc).map (fun d => d.parameters.length) = some 0 := by decide +kernel
/-- SoupSandModel.readKind -/
def w_m_readKind_j1 (Q : Int → Mem → Prop) (s1 : Int) (M : Mem) : Prop :=
  ∀ a1 : Int, a1 = M 12 62 → 0 ≤ a1 → a1 ≤ 200 → w_m_fails M s1 a1 (fun a3 M4 => Q a3 M4)
set_option maxRecDepth 100000 in
set_option maxHeartbeats 4000000 in
theorem s_m_readKind_j1 {Q : Int → Mem → Prop} {s1 : Int} {M : Mem} (hC : rC p R s m args meth c cells slots D aC ad 6 cX12_readKind RX12 3 71 (some .int)) (hQ : ∀ (pc : Nat) (L : List (Nat × RV)) (z : Int) (M : Mem), decode cX12_readKind pc = .ok (.ireturn, 1) → Q z M → rG p l e R s m args below meth c cells slots Qs D aC ad 6 pc L [vI z] M) (hw : w_m_readKind_j1 Q s1 M) : rG p l e R s m args below meth c cells slots Qs D aC ad 6 68 [(0, vR 12)] [vI s1, vR 12] M := by
  unfold w_m_readKind_j1 at hw
  refine r_aload_n hC dX12_readKind_68 rfl rfl ?_
  refine r_getI hC 62 rfl (by decide) kf12_395 rfl rfl dX12_readKind_69 (fun b2 b2' => ?_)
  replace hw := hw _ rfl b2 b2'
  refine r_callV hC (d_m_fails hw) rfl kC12_fails km12_428 kI12_fails kS12_fails kN12 dd_12_fails ⟨Nat.le_of_ble_eq_true rfl, Nat.le_of_ble_eq_true rfl⟩ rfl (Nat.le_of_ble_eq_true rfl) dX12_readKind_72 (fun r M' hp => ?_)
  obtain ⟨a3, rfl, hw⟩ := hp
  try dsimp only at hw
  exact hQ _ _ _ _ dX12_readKind_75 hw
def w_m_readKind_j0 (Q : Int → Mem → Prop) (x5 : Int) (M : Mem) : Prop :=
  (-2147483648 ≤ x5 ∧ x5 ≤ 2147483647) ∧ ((0 ≤ x5 → w_m_readKind_j1 Q 3 M) ∧ (¬ (0 ≤ x5) → w_m_readKind_j1 Q 1 M))
set_option maxRecDepth 100000 in
set_option maxHeartbeats 4000000 in
theorem s_m_readKind_j0 {Q : Int → Mem → Prop} {x5 : Int} {M : Mem} (hC : rC p R s m args meth c cells slots D aC ad 6 cX12_readKind RX12 3 71 (some .int)) (hQ : ∀ (pc : Nat) (L : List (Nat × RV)) (z : Int) (M : Mem), decode cX12_readKind pc = .ok (.ireturn, 1) → Q z M → rG p l e R s m args below meth c cells slots Qs D aC ad 6 pc L [vI z] M) (hw : w_m_readKind_j0 Q x5 M) : rG p l e R s m args below meth c cells slots Qs D aC ad 6 57 [(0, vR 12), (5, vI x5)] [] M := by
  unfold w_m_readKind_j0 at hw
  refine r_aload_n hC dX12_readKind_57 rfl rfl ?_
  refine r_iload hC dX12_readKind_58 rfl ?_
  obtain ⟨o1, hw⟩ := hw
  obtain ⟨hwt, hwf⟩ := hw
  refine r_if_ge hC 67 dX12_readKind_60 (by decide) o1.1 o1.2 (fun c3 => ?_) (fun c3 => ?_)
  · have hw := hwt c3
    refine r_iconst hC dX12_readKind_67 ?_
    exact r_subk (s_m_readKind_j1 hC hQ hw) ⟨rfl, trivial⟩
  · have hw := hwf c3
    refine r_iconst hC dX12_readKind_63 ?_
    refine r_goto hC 68 dX12_readKind_64 (by decide) ?_
    exact r_subk (s_m_readKind_j1 hC hQ hw) ⟨rfl, trivial⟩
def w_m_readKind_B0 (Q : Int → Mem → Prop) (x2 : Int) (X27 : Int → Int → Int → Mem → Prop) (x1 : Int) (x3 : Int) (x4 : Int) (M : Mem) : Prop :=
  (-2147483648 ≤ x4 ∧ x4 ≤ 2147483647) ∧ ((x4 = 0 → Q x1 M) ∧ (¬ (x4 = 0) → w_m_readWord M (fun M5 => w_m_nameOf M5 (fun a6 => (-2147483648 ≤ a6 ∧ a6 ≤ 2147483647) ∧ ((a6 < 0 → w_m_readKind_j0 Q a6 M5) ∧ (¬ (a6 < 0) → (-2147483648 ≤ bAnd (bShr x3 a6) 1 ∧ bAnd (bShr x3 a6) 1 ≤ 2147483647) ∧ ((¬ (bAnd (bShr x3 a6) 1 = 1) → ∀ a13 : Int, a13 = M5 12 64 → 0 ≤ a13 → a13 ≤ 200 → ∀ M16 : Mem, M16 = mset M5 12 62 a13 → w_m_readRule M16 (x2 + a6) (fun a17 M18 => (-2147483648 ≤ a17 ∧ a17 ≤ 2147483647) ∧ ((¬ (a17 = 0) → X27 a17 (bOr x3 (bShl 1 a6)) 0 M18) ∧ (a17 = 0 → w_m_here M18 (fun a22 M23 => (-2147483648 ≤ a22 ∧ a22 ≤ 2147483647) ∧ (w_m_in M23 a22 97 122 (fun a25 => (-2147483648 ≤ a25 ∧ a25 ≤ 2147483647) ∧ ((a25 = 0 → X27 a17 (bOr x3 (bShl 1 a6)) 0 M23) ∧ (¬ (a25 = 0) → X27 a17 (bOr x3 (bShl 1 a6)) 1 M23))))))))) ∧ (bAnd (bShr x3 a6) 1 = 1 → w_m_readKind_j0 Q a6 M5))))))))
set_option maxRecDepth 100000 in
set_option maxHeartbeats 4000000 in
theorem s_m_readKind_B0 {Q : Int → Mem → Prop} {x2 : Int} {X27 : Int → Int → Int → Mem → Prop} {x1 : Int} {x3 : Int} {x4 : Int} {M : Mem} (hC : rC p R s m args meth c cells slots D aC ad 6 cX12_readKind RX12 3 71 (some .int)) (hQ : ∀ (pc : Nat) (L : List (Nat × RV)) (z : Int) (M : Mem), decode cX12_readKind pc = .ok (.ireturn, 1) → Q z M → rG p l e R s m args below meth c cells slots Qs D aC ad 6 pc L [vI z] M) (hX27 : ∀ (x1 : Int) (x3 : Int) (x4 : Int) (M : Mem), X27 x1 x3 x4 M → rG p l e R s m args below meth c cells slots Qs D aC ad 6 27 [(0, vR 12), (1, vI x1), (2, vI x2), (3, vI x3), (4, vI x4)] [] M) (hw : w_m_readKind_B0 Q x2 X27 x1 x3 x4 M) : rG p l e R s m args below meth c cells slots Qs D aC ad 6 27 [(0, vR 12), (1, vI x1), (2, vI x2), (3, vI x3), (4, vI x4)] [] M := by
  unfold w_m_readKind_B0 at hw
  refine r_iload hC dX12_readKind_27 rfl ?_
  obtain ⟨o1, hw⟩ := hw
  obtain ⟨hwt, hwf⟩ := hw
  refine r_if_eq hC 131 dX12_readKind_29 (by decide) o1.1 o1.2 (fun c3 => ?_) (fun c3 => ?_)
  · have hw := hwt c3
    refine r_iload_n hC dX12_readKind_131 rfl rfl ?_
    exact hQ _ _ _ _ dX12_readKind_132 hw
  · have hw := hwf c3
    refine r_aload_n hC dX12_readKind_32 rfl rfl ?_
    refine r_callV hC (d_m_readWord hw) rfl kC12_readWord km12_443 kI12_readWord kS12_readWord kN12 dd_12_readWord ⟨Nat.le_of_ble_eq_true rfl, Nat.le_of_ble_eq_true rfl⟩ rfl (Nat.le_of_ble_eq_true rfl) dX12_readKind_33 (fun r M' hp => ?_)
    obtain ⟨rfl, hw⟩ := hp
    try dsimp only at hw
    refine r_aload_n hC dX12_readKind_36 rfl rfl ?_
    refine r_callV hC (d_m_nameOf hw) rfl kC12_nameOf km12_446 kI12_nameOf kS12_nameOf kN12 dd_12_nameOf ⟨Nat.le_of_ble_eq_true rfl, Nat.le_of_ble_eq_true rfl⟩ rfl (Nat.le_of_ble_eq_true rfl) dX12_readKind_37 (fun r M' hp => ?_)
    obtain ⟨rfl, a6, rfl, hw⟩ := hp
    try dsimp only at hw
    refine r_istore hC dX12_readKind_40 (by decide) ?_
    refine r_iload hC dX12_readKind_42 rfl ?_
    obtain ⟨o7, hw⟩ := hw
    obtain ⟨hwt, hwf⟩ := hw
    refine r_if_lt hC 57 dX12_readKind_44 (by decide) o7.1 o7.2 (fun c9 => ?_) (fun c9 => ?_)
    · have hw := hwt c9
      exact r_subk (s_m_readKind_j0 hC hQ hw) ⟨rfl, rfl, trivial⟩
    · have hw := hwf c9
      refine r_iload_n hC dX12_readKind_47 rfl rfl ?_
      refine r_iload hC dX12_readKind_48 rfl ?_
      refine r_ishr hC dX12_readKind_50 ?_
      refine r_iconst hC dX12_readKind_51 ?_
      refine r_iand hC dX12_readKind_52 ?_
      refine r_iconst hC dX12_readKind_53 ?_
      obtain ⟨o10, hw⟩ := hw
      obtain ⟨hwt, hwf⟩ := hw
      refine r_icmp_ne hC 76 dX12_readKind_54 (by decide) o10.1 o10.2 (by decide) (by decide) (fun c12 => ?_) (fun c12 => ?_)
      · have hw := hwt c12
        refine r_iload_n hC dX12_readKind_76 rfl rfl ?_
        refine r_iconst hC dX12_readKind_77 ?_
        refine r_iload hC dX12_readKind_78 rfl ?_
        refine r_ishl hC dX12_readKind_80 ?_
        refine r_ior hC dX12_readKind_81 ?_
        refine r_istore_n hC dX12_readKind_82 rfl (by decide) ?_
        refine r_aload_n hC dX12_readKind_83 rfl rfl ?_
        refine r_aload_n hC dX12_readKind_84 rfl rfl ?_
        refine r_getI hC 64 rfl (by decide) kf12_405 rfl rfl dX12_readKind_85 (fun b14 b14' => ?_)
        replace hw := hw _ rfl b14 b14'
        refine r_putI hC 62 rfl (by decide) kf12_395 rfl rfl (by omega) (by omega) dX12_readKind_88 ?_
        replace hw := hw _ rfl
        refine r_aload_n hC dX12_readKind_91 rfl rfl ?_
        refine r_iload_n hC dX12_readKind_92 rfl rfl ?_
        refine r_iload hC dX12_readKind_93 rfl ?_
        refine r_iadd hC dX12_readKind_95 ?_
        refine r_callV hC (d_m_readRule hw) rfl kC12_readRule km12_449 kI12_readRule kS12_readRule kN12 dd_12_readRule ⟨Nat.le_of_ble_eq_true rfl, Nat.le_of_ble_eq_true rfl⟩ rfl (Nat.le_of_ble_eq_true rfl) dX12_readKind_96 (fun r M' hp => ?_)
        obtain ⟨a17, rfl, hw⟩ := hp
        try dsimp only at hw
        refine r_istore_n hC dX12_readKind_99 rfl (by decide) ?_
        refine r_iload_n hC dX12_readKind_100 rfl rfl ?_
        obtain ⟨o19, hw⟩ := hw
        obtain ⟨hwt, hwf⟩ := hw
        refine r_if_ne hC 125 dX12_readKind_101 (by decide) o19.1 o19.2 (fun c21 => ?_) (fun c21 => ?_)
        · have hw := hwt c21
          refine r_iconst hC dX12_readKind_125 ?_
          refine r_istore hC dX12_readKind_126 (by decide) ?_
          refine r_goto hC 27 dX12_readKind_128 (by decide) ?_
          exact r_subk (hX27 _ _ _ _ hw) ⟨rfl, rfl, rfl, rfl, rfl, trivial⟩
        · have hw := hwf c21
          refine r_aload_n hC dX12_readKind_104 rfl rfl ?_
          refine r_callV hC (d_m_here hw) rfl kC12_here km12_398 kI12_here kS12_here kN12 dd_12_here ⟨Nat.le_of_ble_eq_true rfl, Nat.le_of_ble_eq_true rfl⟩ rfl (Nat.le_of_ble_eq_true rfl) dX12_readKind_105 (fun r M' hp => ?_)
          obtain ⟨a22, rfl, hw⟩ := hp
          try dsimp only at hw
          obtain ⟨o24, hw⟩ := hw
          refine r_i2l hC dX12_readKind_108 o24.1 o24.2 ?_
          refine r_ldc2 hC (97) dX12_readKind_109 kL12_408 (by decide) ?_
          refine r_ldc2 hC (122) dX12_readKind_112 kL12_410 (by decide) ?_
          refine r_callS hC (d_m_in hw) kC12_in km12_165 kT12_in kN12 dd_12_in ⟨Nat.le_of_ble_eq_true rfl, Nat.le_of_ble_eq_true rfl⟩ rfl (Nat.le_of_ble_eq_true rfl) dX12_readKind_115 (fun r M' hp => ?_)
          obtain ⟨rfl, a25, rfl, hw⟩ := hp
          try dsimp only at hw
          obtain ⟨o26, hw⟩ := hw
          obtain ⟨hwt, hwf⟩ := hw
          refine r_if_eq hC 125 dX12_readKind_118 (by decide) o26.1 o26.2 (fun c28 => ?_) (fun c28 => ?_)
          · have hw := hwt c28
            refine r_iconst hC dX12_readKind_125 ?_
            refine r_istore hC dX12_readKind_126 (by decide) ?_
            refine r_goto hC 27 dX12_readKind_128 (by decide) ?_
            exact r_subk (hX27 _ _ _ _ hw) ⟨rfl, rfl, rfl, rfl, rfl, trivial⟩
          · have hw := hwf c28
            refine r_iconst hC dX12_readKind_121 ?_
            refine r_goto hC 126 dX12_readKind_122 (by decide) ?_
            refine r_istore hC dX12_readKind_126 (by decide) ?_
            refine r_goto hC 27 dX12_readKind_128 (by decide) ?_
            exact r_subk (hX27 _ _ _ _ hw) ⟨rfl, rfl, rfl, rfl, rfl, trivial⟩
      · have hw := hwf c12
        exact r_subk (s_m_readKind_j0 hC hQ hw) ⟨rfl, rfl, trivial⟩
def w_m_readKind_L0 (Q : Int → Mem → Prop) (x2 : Int) (x1 : Int) (x3 : Int) (x4 : Int) (M : Mem) : Prop :=
  ∀ X : Int → Int → Int → Mem → Prop, (∀ (x1 : Int) (x3 : Int) (x4 : Int) (M : Mem), w_m_readKind_B0 Q x2 X x1 x3 x4 M → X x1 x3 x4 M) → X x1 x3 x4 M
set_option maxRecDepth 100000 in
set_option maxHeartbeats 4000000 in
theorem s_m_readKind_L0 {Q : Int → Mem → Prop} {x2 : Int} {x1 : Int} {x3 : Int} {x4 : Int} {M : Mem} (hC : rC p R s m args meth c cells slots D aC ad 6 cX12_readKind RX12 3 71 (some .int)) (hQ : ∀ (pc : Nat) (L : List (Nat × RV)) (z : Int) (M : Mem), decode cX12_readKind pc = .ok (.ireturn, 1) → Q z M → rG p l e R s m args below meth c cells slots Qs D aC ad 6 pc L [vI z] M) (hw : w_m_readKind_L0 Q x2 x1 x3 x4 M) : rG p l e R s m args below meth c cells slots Qs D aC ad 6 27 [(0, vR 12), (1, vI x1), (2, vI x2), (3, vI x3), (4, vI x4)] [] M := by
  unfold w_m_readKind_L0 at hw
  exact hw (fun x1 x3 x4 M => rG p l e R s m args below meth c cells slots Qs D aC ad 6 27 [(0, vR 12), (1, vI x1), (2, vI x2), (3, vI x3), (4, vI x4)] [] M) (fun x1 x3 x4 M hb => s_m_readKind_B0 hC hQ (fun _ _ _ _ h => h) hb)
def w_m_readKind (M : Mem) (Q : Int → Mem → Prop) : Prop :=
  w_m_readNumber M 0 3 (fun a1 M2 => ∀ a3 : Int, a3 = M2 12 65 → 0 ≤ a3 → a3 ≤ 200000 → (-2147483648 ≤ a1 ∧ a1 ≤ 2147483647) ∧ ((¬ (a1 = 0) → w_m_readKind_L0 Q (5 * a3) a1 0 0 M2) ∧ (a1 = 0 → w_m_readKind_L0 Q (5 * a3) a1 0 1 M2)))
set_option maxRecDepth 100000 in
set_option maxHeartbeats 4000000 in
theorem s_m_readKind {M : Mem} {Q : Int → Mem → Prop} (hC : rC p R s m args meth c cells slots D aC ad 6 cX12_readKind RX12 3 71 (some .int)) (hQ : ∀ (pc : Nat) (L : List (Nat × RV)) (z : Int) (M : Mem), decode cX12_readKind pc = .ok (.ireturn, 1) → Q z M → rG p l e R s m args below meth c cells slots Qs D aC ad 6 pc L [vI z] M) (hw : w_m_readKind M Q) : rG p l e R s m args below meth c cells slots Qs D aC ad 6 0 [(0, vR 12)] [] M := by
  unfold w_m_readKind at hw
  refine r_aload_n hC dX12_readKind_0 rfl rfl ?_
  refine r_iconst hC dX12_readKind_1 ?_
  refine r_iconst hC dX12_readKind_2 ?_
  refine r_callV hC (d_m_readNumber hw) rfl kC12_readNumber km12_440 kI12_readNumber kS12_readNumber kN12 dd_12_readNumber ⟨Nat.le_of_ble_eq_true rfl, Nat.le_of_ble_eq_true rfl⟩ rfl (Nat.le_of_ble_eq_true rfl) dX12_readKind_3 (fun r M' hp => ?_)
  obtain ⟨a1, rfl, hw⟩ := hp
  try dsimp only at hw
  refine r_istore_n hC dX12_readKind_6 rfl (by decide) ?_
  refine r_iconst hC dX12_readKind_7 ?_
  refine r_aload_n hC dX12_readKind_8 rfl rfl ?_
  refine r_getI hC 65 rfl (by decide) kf12_431 rfl rfl dX12_readKind_9 (fun b4 b4' => ?_)
  replace hw := hw _ rfl b4 b4'
  refine r_imul hC dX12_readKind_12 ?_
  refine r_istore_n hC dX12_readKind_13 rfl (by decide) ?_
  refine r_iconst hC dX12_readKind_14 ?_
  refine r_istore_n hC dX12_readKind_15 rfl (by decide) ?_
  refine r_iload_n hC dX12_readKind_16 rfl rfl ?_
  obtain ⟨o5, hw⟩ := hw
  obtain ⟨hwt, hwf⟩ := hw
  refine r_if_ne hC 24 dX12_readKind_17 (by decide) o5.1 o5.2 (fun c7 => ?_) (fun c7 => ?_)
  · have hw := hwt c7
    refine r_iconst hC dX12_readKind_24 ?_
    refine r_istore hC dX12_readKind_25 (by decide) ?_
    exact r_subk (s_m_readKind_L0 hC hQ hw) ⟨rfl, rfl, rfl, rfl, rfl, trivial⟩
  · have hw := hwf c7
    refine r_iconst hC dX12_readKind_20 ?_
    refine r_goto hC 25 dX12_readKind_21 (by decide) ?_
    refine r_istore hC dX12_readKind_25 (by decide) ?_
    exact r_subk (s_m_readKind_L0 hC hQ hw) ⟨rfl, rfl, rfl, rfl, rfl, trivial⟩
set_option maxRecDepth 100000 in
set_option maxHeartbeats 4000000 in
theorem d_m_readKind {l : Launch} {D : va_G} {aC : Nat → ClassId} {ad : Nat → Nat} {M : Mem} {Q : Int → Mem → Prop} (hw : w_m_readKind M Q) : Does l D aC ad yX12_readKind cX12_readKind 6 (some .int) 3 71 [vR 12] M (pI Q) :=
  Does.of (by decide) (Nat.le_of_ble_eq_true rfl) (fun p e R s m args below meth c hC => r_subk (s_m_readKind hC (fun pc L z M d h => r_iret hC d ⟨z, rfl, h⟩) hw) ⟨rfl, trivial⟩)
theorem dd_12_keyOf : yX12_keyOf.cls ≠ "java/lang/invoke/MethodHandle" ∧ yX12_keyOf.cls ≠ "java/lang/invoke/VarHandle" ∧ (parseMethodDescriptor yX12_keyOf.desc).map (fun d => d.parameters.length) = some 0 := by decide +kernel
theorem dd_12_readKind : yX12_readKind.cls ≠ "java/lang/invoke/MethodHandle" ∧ yX12_readKind.cls ≠ "java/lang/invoke/VarHandle" ∧ (parseMethodDescriptor yX12_readKind.desc).map (fun d => d.parameters.length) = some 0 := by decide +kernel
/-- SoupSandModel.readClause -/
def w_m_readClause_j1 (Q : Int → Mem → Prop) (s1 : Int) (M : Mem) : Prop :=
  ∀ a1 : Int, a1 = M 12 62 → 0 ≤ a1 → a1 ≤ 200 → w_m_fails M s1 a1 (fun a3 M4 => Q a3 M4)
set_option maxRecDepth 100000 in
set_option maxHeartbeats 4000000 in
theorem s_m_readClause_j1 {Q : Int → Mem → Prop} {s1 : Int} {M : Mem} (hC : rC p R s m args meth c cells slots D aC ad 4 cX12_readClause RX12 4 96 (some .int)) (hQ : ∀ (pc : Nat) (L : List (Nat × RV)) (z : Int) (M : Mem), decode cX12_readClause pc = .ok (.ireturn, 1) → Q z M → rG p l e R s m args below meth c cells slots Qs D aC ad 4 pc L [vI z] M) (hw : w_m_readClause_j1 Q s1 M) : rG p l e R s m args below meth c cells slots Qs D aC ad 4 27 [(0, vR 12)] [vI s1, vR 12] M := by
  unfold w_m_readClause_j1 at hw
  refine r_aload_n hC dX12_readClause_27 rfl rfl ?_
  refine r_getI hC 62 rfl (by decide) kf12_395 rfl rfl dX12_readClause_28 (fun b2 b2' => ?_)
  replace hw := hw _ rfl b2 b2'
  refine r_callV hC (d_m_fails hw) rfl kC12_fails km12_428 kI12_fails kS12_fails kN12 dd_12_fails ⟨Nat.le_of_ble_eq_true rfl, Nat.le_of_ble_eq_true rfl⟩ rfl (Nat.le_of_ble_eq_true rfl) dX12_readClause_31 (fun r M' hp => ?_)
  obtain ⟨a3, rfl, hw⟩ := hp
  try dsimp only at hw
  exact hQ _ _ _ _ dX12_readClause_34 hw
def w_m_readClause_j0 (Q : Int → Mem → Prop) (x2 : Int) (M : Mem) : Prop :=
  (-2147483648 ≤ x2 ∧ x2 ≤ 2147483647) ∧ ((0 ≤ x2 → w_m_readClause_j1 Q 4 M) ∧ (¬ (0 ≤ x2) → w_m_readClause_j1 Q 1 M))
set_option maxRecDepth 100000 in
set_option maxHeartbeats 4000000 in
theorem s_m_readClause_j0 {Q : Int → Mem → Prop} {x2 : Int} {M : Mem} (hC : rC p R s m args meth c cells slots D aC ad 4 cX12_readClause RX12 4 96 (some .int)) (hQ : ∀ (pc : Nat) (L : List (Nat × RV)) (z : Int) (M : Mem), decode cX12_readClause pc = .ok (.ireturn, 1) → Q z M → rG p l e R s m args below meth c cells slots Qs D aC ad 4 pc L [vI z] M) (hw : w_m_readClause_j0 Q x2 M) : rG p l e R s m args below meth c cells slots Qs D aC ad 4 17 [(0, vR 12), (2, vI x2)] [] M := by
  unfold w_m_readClause_j0 at hw
  refine r_aload_n hC dX12_readClause_17 rfl rfl ?_
  refine r_iload_n hC dX12_readClause_18 rfl rfl ?_
  obtain ⟨o1, hw⟩ := hw
  obtain ⟨hwt, hwf⟩ := hw
  refine r_if_ge hC 26 dX12_readClause_19 (by decide) o1.1 o1.2 (fun c3 => ?_) (fun c3 => ?_)
  · have hw := hwt c3
    refine r_iconst hC dX12_readClause_26 ?_
    exact r_subk (s_m_readClause_j1 hC hQ hw) ⟨rfl, trivial⟩
  · have hw := hwf c3
    refine r_iconst hC dX12_readClause_22 ?_
    refine r_goto hC 27 dX12_readClause_23 (by decide) ?_
    exact r_subk (s_m_readClause_j1 hC hQ hw) ⟨rfl, trivial⟩
def w_m_readClause_j2 (Q : Int → Mem → Prop) (s0 : Int) (M : Mem) : Prop :=
  (-2147483648 ≤ s0 ∧ s0 ≤ 2147483647) ∧ ((s0 ≤ 0 → w_m_here M (fun a4 M5 => (-2147483648 ≤ a4 ∧ a4 ≤ 2147483647) ∧ ((a4 = 59 → ∀ a9 : Int, a9 = M5 12 62 → 0 ≤ a9 → a9 ≤ 200 → (0 ≤ a9 + 1 ∧ a9 + 1 ≤ 200) ∧ (∀ M12 : Mem, M12 = mset M5 12 62 (a9 + 1) → Q 0 M12)) ∧ (¬ (a4 = 59) → ∀ a13 : Int, a13 = M5 12 62 → 0 ≤ a13 → a13 ≤ 200 → w_m_fails M5 1 a13 (fun a15 M16 => Q a15 M16))))) ∧ (¬ (s0 ≤ 0) → Q s0 M))
set_option maxRecDepth 100000 in
set_option maxHeartbeats 4000000 in
theorem s_m_readClause_j2 {Q : Int → Mem → Prop} {s0 : Int} {M : Mem} (hC : rC p R s m args meth c cells slots D aC ad 4 cX12_readClause RX12 4 96 (some .int)) (hQ : ∀ (pc : Nat) (L : List (Nat × RV)) (z : Int) (M : Mem), decode cX12_readClause pc = .ok (.ireturn, 1) → Q z M → rG p l e R s m args below meth c cells slots Qs D aC ad 4 pc L [vI z] M) (hw : w_m_readClause_j2 Q s0 M) : rG p l e R s m args below meth c cells slots Qs D aC ad 4 59 [(0, vR 12)] [vI s0] M := by
  unfold w_m_readClause_j2 at hw
  refine r_istore_n hC dX12_readClause_59 rfl (by decide) ?_
  refine r_iload_n hC dX12_readClause_60 rfl rfl ?_
  obtain ⟨o1, hw⟩ := hw
  obtain ⟨hwt, hwf⟩ := hw
  refine r_if_le hC 66 dX12_readClause_61 (by decide) o1.1 o1.2 (fun c3 => ?_) (fun c3 => ?_)
  · have hw := hwt c3
    refine r_aload_n hC dX12_readClause_66 rfl rfl ?_
    refine r_callV hC (d_m_here hw) rfl kC12_here km12_398 kI12_here kS12_here kN12 dd_12_here ⟨Nat.le_of_ble_eq_true rfl, Nat.le_of_ble_eq_true rfl⟩ rfl (Nat.le_of_ble_eq_true rfl) dX12_readClause_67 (fun r M' hp => ?_)
    obtain ⟨a4, rfl, hw⟩ := hp
    try dsimp only at hw
    refine r_bipush hC dX12_readClause_70 (by decide) ?_
    obtain ⟨o6, hw⟩ := hw
    obtain ⟨hwt, hwf⟩ := hw
    refine r_icmp_eq hC 85 dX12_readClause_72 (by decide) o6.1 o6.2 (by decide) (by decide) (fun c8 => ?_) (fun c8 => ?_)
    · have hw := hwt c8
      refine r_aload_n hC dX12_readClause_85 rfl rfl ?_
      refine r_dup hC dX12_readClause_86 rfl ?_
      refine r_getI hC 62 rfl (by decide) kf12_395 rfl rfl dX12_readClause_87 (fun b10 b10' => ?_)
      replace hw := hw _ rfl b10 b10'
      refine r_iconst hC dX12_readClause_90 ?_
      refine r_iadd hC dX12_readClause_91 ?_
      obtain ⟨o11, hw⟩ := hw
      refine r_putI hC 62 rfl (by decide) kf12_395 rfl rfl o11.1 o11.2 dX12_readClause_92 ?_
      replace hw := hw _ rfl
      refine r_iconst hC dX12_readClause_95 ?_
      exact hQ _ _ _ _ dX12_readClause_96 hw
    · have hw := hwf c8
      refine r_aload_n hC dX12_readClause_75 rfl rfl ?_
      refine r_iconst hC dX12_readClause_76 ?_
      refine r_aload_n hC dX12_readClause_77 rfl rfl ?_
      refine r_getI hC 62 rfl (by decide) kf12_395 rfl rfl dX12_readClause_78 (fun b14 b14' => ?_)
      replace hw := hw _ rfl b14 b14'
      refine r_callV hC (d_m_fails hw) rfl kC12_fails km12_428 kI12_fails kS12_fails kN12 dd_12_fails ⟨Nat.le_of_ble_eq_true rfl, Nat.le_of_ble_eq_true rfl⟩ rfl (Nat.le_of_ble_eq_true rfl) dX12_readClause_81 (fun r M' hp => ?_)
      obtain ⟨a15, rfl, hw⟩ := hp
      try dsimp only at hw
      exact hQ _ _ _ _ dX12_readClause_84 hw
  · have hw := hwf c3
    refine r_iload_n hC dX12_readClause_64 rfl rfl ?_
    exact hQ _ _ _ _ dX12_readClause_65 hw
def w_m_readClause (M : Mem) (x1 : Int) (Q : Int → Mem → Prop) : Prop :=
  w_m_readWord M (fun M2 => w_m_keyOf M2 (fun a3 => (-2147483648 ≤ a3 ∧ a3 ≤ 2147483647) ∧ ((a3 < 0 → w_m_readClause_j0 Q a3 M2) ∧ (¬ (a3 < 0) → (-2147483648 ≤ x1 ∧ x1 ≤ 2147483647) ∧ ((x1 = 0 → ∀ a10 : Int, a10 = M2 12 64 → 0 ≤ a10 → a10 ≤ 200 → ∀ M13 : Mem, M13 = mset M2 12 62 a10 → (-2147483648 ≤ a3 ∧ a3 ≤ 2147483647) ∧ ((¬ (a3 = 0) → w_m_readRule M13 a3 (fun a17 M18 => w_m_readClause_j2 Q a17 M18)) ∧ (a3 = 0 → w_m_readKind M13 (fun a19 M20 => w_m_readClause_j2 Q a19 M20)))) ∧ (¬ (x1 = 0) → w_m_readClause_j0 Q a3 M2))))))
set_option maxRecDepth 100000 in
set_option maxHeartbeats 4000000 in
theorem s_m_readClause {M : Mem} {x1 : Int} {Q : Int → Mem → Prop} (hC : rC p R s m args meth c cells slots D aC ad 4 cX12_readClause RX12 4 96 (some .int)) (hQ : ∀ (pc : Nat) (L : List (Nat × RV)) (z : Int) (M : Mem), decode cX12_readClause pc = .ok (.ireturn, 1) → Q z M → rG p l e R s m args below meth c cells slots Qs D aC ad 4 pc L [vI z] M) (hw : w_m_readClause M x1 Q) : rG p l e R s m args below meth c cells slots Qs D aC ad 4 0 [(0, vR 12), (1, vI x1)] [] M := by
  unfold w_m_readClause at hw
  refine r_aload_n hC dX12_readClause_0 rfl rfl ?_
  refine r_callV hC (d_m_readWord hw) rfl kC12_readWord km12_443 kI12_readWord kS12_readWord kN12 dd_12_readWord ⟨Nat.le_of_ble_eq_true rfl, Nat.le_of_ble_eq_true rfl⟩ rfl (Nat.le_of_ble_eq_true rfl) dX12_readClause_1 (fun r M' hp => ?_)
  obtain ⟨rfl, hw⟩ := hp
  try dsimp only at hw
  refine r_aload_n hC dX12_readClause_4 rfl rfl ?_
  refine r_callV hC (d_m_keyOf hw) rfl kC12_keyOf km12_452 kI12_keyOf kS12_keyOf kN12 dd_12_keyOf ⟨Nat.le_of_ble_eq_true rfl, Nat.le_of_ble_eq_true rfl⟩ rfl (Nat.le_of_ble_eq_true rfl) dX12_readClause_5 (fun r M' hp => ?_)
  obtain ⟨rfl, a3, rfl, hw⟩ := hp
  try dsimp only at hw
  refine r_istore_n hC dX12_readClause_8 rfl (by decide) ?_
  refine r_iload_n hC dX12_readClause_9 rfl rfl ?_
  obtain ⟨o4, hw⟩ := hw
  obtain ⟨hwt, hwf⟩ := hw
  refine r_if_lt hC 17 dX12_readClause_10 (by decide) o4.1 o4.2 (fun c6 => ?_) (fun c6 => ?_)
  · have hw := hwt c6
    exact r_subk (s_m_readClause_j0 hC hQ hw) ⟨rfl, rfl, trivial⟩
  · have hw := hwf c6
    refine r_iload_n hC dX12_readClause_13 rfl rfl ?_
    obtain ⟨o7, hw⟩ := hw
    obtain ⟨hwt, hwf⟩ := hw
    refine r_if_eq hC 35 dX12_readClause_14 (by decide) o7.1 o7.2 (fun c9 => ?_) (fun c9 => ?_)
    · have hw := hwt c9
      refine r_aload_n hC dX12_readClause_35 rfl rfl ?_
      refine r_aload_n hC dX12_readClause_36 rfl rfl ?_
      refine r_getI hC 64 rfl (by decide) kf12_405 rfl rfl dX12_readClause_37 (fun b11 b11' => ?_)
      replace hw := hw _ rfl b11 b11'
      refine r_putI hC 62 rfl (by decide) kf12_395 rfl rfl (by omega) (by omega) dX12_readClause_40 ?_
      replace hw := hw _ rfl
      refine r_iload_n hC dX12_readClause_43 rfl rfl ?_
      obtain ⟨o14, hw⟩ := hw
      obtain ⟨hwt, hwf⟩ := hw
      refine r_if_ne hC 54 dX12_readClause_44 (by decide) o14.1 o14.2 (fun c16 => ?_) (fun c16 => ?_)
      · have hw := hwt c16
        refine r_aload_n hC dX12_readClause_54 rfl rfl ?_
        refine r_iload_n hC dX12_readClause_55 rfl rfl ?_
        refine r_callV hC (d_m_readRule hw) rfl kC12_readRule km12_449 kI12_readRule kS12_readRule kN12 dd_12_readRule ⟨Nat.le_of_ble_eq_true rfl, Nat.le_of_ble_eq_true rfl⟩ rfl (Nat.le_of_ble_eq_true rfl) dX12_readClause_56 (fun r M' hp => ?_)
        obtain ⟨a17, rfl, hw⟩ := hp
        try dsimp only at hw
        exact r_subk (s_m_readClause_j2 hC hQ hw) ⟨rfl, trivial⟩
      · have hw := hwf c16
        refine r_aload_n hC dX12_readClause_47 rfl rfl ?_
        refine r_callV hC (d_m_readKind hw) rfl kC12_readKind km12_455 kI12_readKind kS12_readKind kN12 dd_12_readKind ⟨Nat.le_of_ble_eq_true rfl, Nat.le_of_ble_eq_true rfl⟩ rfl (Nat.le_of_ble_eq_true rfl) dX12_readClause_48 (fun r M' hp => ?_)
        obtain ⟨a19, rfl, hw⟩ := hp
        try dsimp only at hw
        refine r_goto hC 59 dX12_readClause_51 (by decide) ?_
        exact r_subk (s_m_readClause_j2 hC hQ hw) ⟨rfl, trivial⟩
    · have hw := hwf c9
      exact r_subk (s_m_readClause_j0 hC hQ hw) ⟨rfl, rfl, trivial⟩
set_option maxRecDepth 100000 in
set_option maxHeartbeats 4000000 in
theorem d_m_readClause {l : Launch} {D : va_G} {aC : Nat → ClassId} {ad : Nat → Nat} {M : Mem} {x1 : Int} {Q : Int → Mem → Prop} (hw : w_m_readClause M x1 Q) : Does l D aC ad yX12_readClause cX12_readClause 4 (some .int) 4 96 [vR 12, vI x1] M (pI Q) :=
  Does.of (by decide) (Nat.le_of_ble_eq_true rfl) (fun p e R s m args below meth c hC => r_subk (s_m_readClause hC (fun pc L z M d h => r_iret hC d ⟨z, rfl, h⟩) hw) ⟨rfl, rfl, trivial⟩)
theorem dd_12_first : yX12_first.cls ≠ "java/lang/invoke/MethodHandle" ∧ yX12_first.cls ≠ "java/lang/invoke/VarHandle" ∧ (parseMethodDescriptor yX12_first.desc).map (fun d => d.parameters.length) = some 0 := by decide +kernel
theorem dd_12_keep : yX12_keep.cls ≠ "java/lang/invoke/MethodHandle" ∧ yX12_keep.cls ≠ "java/lang/invoke/VarHandle" ∧ (parseMethodDescriptor yX12_keep.desc).map (fun d => d.parameters.length) = some 0 := by decide +kernel
theorem dd_12_readClause : yX12_readClause.cls ≠ "java/lang/invoke/MethodHandle" ∧ yX12_readClause.cls ≠ "java/lang/invoke/VarHandle" ∧ (parseMethodDescriptor yX12_readClause.desc).map (fun d => d.parameters.length) = some 1 := by decide +kernel
/-- SoupSandModel.read -/
def w_m_read_j1 (Q : Int → Mem → Prop) (x1 : Int) (x2 : Int) (M : Mem) : Prop :=
  ∀ M2 : Mem, M2 = mset M 12 60 0 → (-2147483648 ≤ x2 ∧ x2 ≤ 2147483647) ∧ ((x2 ≤ 0 → w_m_keep M2 (fun M7 => Q x1 M7)) ∧ (¬ (x2 ≤ 0) → Q ((-10) - x2) M2))
set_option maxRecDepth 100000 in
set_option maxHeartbeats 4000000 in
theorem s_m_read_j1 {Q : Int → Mem → Prop} {x1 : Int} {x2 : Int} {M : Mem} (hC : rC p R s m args meth c cells slots D aC ad 3 cX12_read RX12 5 119 (some .int)) (hQ : ∀ (pc : Nat) (L : List (Nat × RV)) (z : Int) (M : Mem), decode cX12_read pc = .ok (.ireturn, 1) → Q z M → rG p l e R s m args below meth c cells slots Qs D aC ad 3 pc L [vI z] M) (hw : w_m_read_j1 Q x1 x2 M) : rG p l e R s m args below meth c cells slots Qs D aC ad 3 51 [(0, vR 12), (1, vI x1), (2, vI x2)] [] M := by
  unfold w_m_read_j1 at hw
  refine r_aload_n hC dX12_read_51 rfl rfl ?_
  refine r_iconst hC dX12_read_52 ?_
  refine r_putI hC 60 rfl (by decide) kf12_222 rfl rfl (by decide) (by decide) dX12_read_53 ?_
  replace hw := hw _ rfl
  refine r_iload_n hC dX12_read_56 rfl rfl ?_
  obtain ⟨o3, hw⟩ := hw
  obtain ⟨hwt, hwf⟩ := hw
  refine r_if_le hC 65 dX12_read_57 (by decide) o3.1 o3.2 (fun c5 => ?_) (fun c5 => ?_)
  · have hw := hwt c5
    refine r_aload_n hC dX12_read_65 rfl rfl ?_
    refine r_callV hC (d_m_keep hw) rfl kC12_keep km12_157 kI12_keep kS12_keep kN12 dd_12_keep ⟨Nat.le_of_ble_eq_true rfl, Nat.le_of_ble_eq_true rfl⟩ rfl (Nat.le_of_ble_eq_true rfl) dX12_read_66 (fun r M' hp => ?_)
    obtain ⟨rfl, hw⟩ := hp
    try dsimp only at hw
    refine r_iload_n hC dX12_read_69 rfl rfl ?_
    exact hQ _ _ _ _ dX12_read_70 hw
  · have hw := hwf c5
    refine r_bipush hC dX12_read_60 (by decide) ?_
    refine r_iload_n hC dX12_read_62 rfl rfl ?_
    refine r_isub hC dX12_read_63 ?_
    exact hQ _ _ _ _ dX12_read_64 hw
def w_m_read_j0 (Q : Int → Mem → Prop) (X18 : Int → Int → Mem → Prop) (x1 : Int) (s1 : Int) (M : Mem) : Prop :=
  w_m_readClause M s1 (fun a1 M2 => X18 (x1 + 1) a1 M2)
set_option maxRecDepth 100000 in
set_option maxHeartbeats 4000000 in
theorem s_m_read_j0 {Q : Int → Mem → Prop} {X18 : Int → Int → Mem → Prop} {x1 : Int} {s1 : Int} {M : Mem} (hC : rC p R s m args meth c cells slots D aC ad 3 cX12_read RX12 5 119 (some .int)) (hQ : ∀ (pc : Nat) (L : List (Nat × RV)) (z : Int) (M : Mem), decode cX12_read pc = .ok (.ireturn, 1) → Q z M → rG p l e R s m args below meth c cells slots Qs D aC ad 3 pc L [vI z] M) (hX18 : ∀ (x1 : Int) (x2 : Int) (M : Mem), X18 x1 x2 M → rG p l e R s m args below meth c cells slots Qs D aC ad 3 18 [(0, vR 12), (1, vI x1), (2, vI x2)] [] M) (hw : w_m_read_j0 Q X18 x1 s1 M) : rG p l e R s m args below meth c cells slots Qs D aC ad 3 41 [(0, vR 12), (1, vI x1)] [vI s1, vR 12] M := by
  unfold w_m_read_j0 at hw
  refine r_callV hC (d_m_readClause hw) rfl kC12_readClause km12_458 kI12_readClause kS12_readClause kN12 dd_12_readClause ⟨Nat.le_of_ble_eq_true rfl, Nat.le_of_ble_eq_true rfl⟩ rfl (Nat.le_of_ble_eq_true rfl) dX12_read_41 (fun r M' hp => ?_)
  obtain ⟨a1, rfl, hw⟩ := hp
  try dsimp only at hw
  refine r_istore_n hC dX12_read_44 rfl (by decide) ?_
  refine r_iinc hC dX12_read_45 rfl (by decide) ?_
  refine r_goto hC 18 dX12_read_48 (by decide) ?_
  exact r_subk (hX18 _ _ _ hw) ⟨rfl, rfl, rfl, trivial⟩
def w_m_read_B0 (Q : Int → Mem → Prop) (X18 : Int → Int → Mem → Prop) (x1 : Int) (x2 : Int) (M : Mem) : Prop :=
  (-2147483648 ≤ x2 ∧ x2 ≤ 2147483647) ∧ ((¬ (x2 = 0) → w_m_read_j1 Q x1 x2 M) ∧ (x2 = 0 → w_m_here M (fun a4 M5 => (-2147483648 ≤ a4 ∧ a4 ≤ 2147483647) ∧ ((a4 < 0 → w_m_read_j1 Q x1 x2 M5) ∧ (¬ (a4 < 0) → (-2147483648 ≤ x1 ∧ x1 ≤ 2147483647) ∧ ((¬ (x1 = 12) → w_m_read_j0 Q X18 x1 0 M5) ∧ (x1 = 12 → w_m_read_j0 Q X18 x1 1 M5)))))))
set_option maxRecDepth 100000 in
set_option maxHeartbeats 4000000 in
theorem s_m_read_B0 {Q : Int → Mem → Prop} {X18 : Int → Int → Mem → Prop} {x1 : Int} {x2 : Int} {M : Mem} (hC : rC p R s m args meth c cells slots D aC ad 3 cX12_read RX12 5 119 (some .int)) (hQ : ∀ (pc : Nat) (L : List (Nat × RV)) (z : Int) (M : Mem), decode cX12_read pc = .ok (.ireturn, 1) → Q z M → rG p l e R s m args below meth c cells slots Qs D aC ad 3 pc L [vI z] M) (hX18 : ∀ (x1 : Int) (x2 : Int) (M : Mem), X18 x1 x2 M → rG p l e R s m args below meth c cells slots Qs D aC ad 3 18 [(0, vR 12), (1, vI x1), (2, vI x2)] [] M) (hw : w_m_read_B0 Q X18 x1 x2 M) : rG p l e R s m args below meth c cells slots Qs D aC ad 3 18 [(0, vR 12), (1, vI x1), (2, vI x2)] [] M := by
  unfold w_m_read_B0 at hw
  refine r_iload_n hC dX12_read_18 rfl rfl ?_
  obtain ⟨o1, hw⟩ := hw
  obtain ⟨hwt, hwf⟩ := hw
  refine r_if_ne hC 51 dX12_read_19 (by decide) o1.1 o1.2 (fun c3 => ?_) (fun c3 => ?_)
  · have hw := hwt c3
    exact r_subk (s_m_read_j1 hC hQ hw) ⟨rfl, rfl, rfl, trivial⟩
  · have hw := hwf c3
    refine r_aload_n hC dX12_read_22 rfl rfl ?_
    refine r_callV hC (d_m_here hw) rfl kC12_here km12_398 kI12_here kS12_here kN12 dd_12_here ⟨Nat.le_of_ble_eq_true rfl, Nat.le_of_ble_eq_true rfl⟩ rfl (Nat.le_of_ble_eq_true rfl) dX12_read_23 (fun r M' hp => ?_)
    obtain ⟨a4, rfl, hw⟩ := hp
    try dsimp only at hw
    obtain ⟨o6, hw⟩ := hw
    obtain ⟨hwt, hwf⟩ := hw
    refine r_if_lt hC 51 dX12_read_26 (by decide) o6.1 o6.2 (fun c8 => ?_) (fun c8 => ?_)
    · have hw := hwt c8
      exact r_subk (s_m_read_j1 hC hQ hw) ⟨rfl, rfl, rfl, trivial⟩
    · have hw := hwf c8
      refine r_aload_n hC dX12_read_29 rfl rfl ?_
      refine r_iload_n hC dX12_read_30 rfl rfl ?_
      refine r_bipush hC dX12_read_31 (by decide) ?_
      obtain ⟨o9, hw⟩ := hw
      obtain ⟨hwt, hwf⟩ := hw
      refine r_icmp_ne hC 40 dX12_read_33 (by decide) o9.1 o9.2 (by decide) (by decide) (fun c11 => ?_) (fun c11 => ?_)
      · have hw := hwt c11
        refine r_iconst hC dX12_read_40 ?_
        exact r_subk (s_m_read_j0 hC hQ hX18 hw) ⟨rfl, rfl, trivial⟩
      · have hw := hwf c11
        refine r_iconst hC dX12_read_36 ?_
        refine r_goto hC 41 dX12_read_37 (by decide) ?_
        exact r_subk (s_m_read_j0 hC hQ hX18 hw) ⟨rfl, rfl, trivial⟩
def w_m_read_L0 (Q : Int → Mem → Prop) (x1 : Int) (x2 : Int) (M : Mem) : Prop :=
  ∀ X : Int → Int → Mem → Prop, (∀ (x1 : Int) (x2 : Int) (M : Mem), w_m_read_B0 Q X x1 x2 M → X x1 x2 M) → X x1 x2 M
set_option maxRecDepth 100000 in
set_option maxHeartbeats 4000000 in
theorem s_m_read_L0 {Q : Int → Mem → Prop} {x1 : Int} {x2 : Int} {M : Mem} (hC : rC p R s m args meth c cells slots D aC ad 3 cX12_read RX12 5 119 (some .int)) (hQ : ∀ (pc : Nat) (L : List (Nat × RV)) (z : Int) (M : Mem), decode cX12_read pc = .ok (.ireturn, 1) → Q z M → rG p l e R s m args below meth c cells slots Qs D aC ad 3 pc L [vI z] M) (hw : w_m_read_L0 Q x1 x2 M) : rG p l e R s m args below meth c cells slots Qs D aC ad 3 18 [(0, vR 12), (1, vI x1), (2, vI x2)] [] M := by
  unfold w_m_read_L0 at hw
  exact hw (fun x1 x2 M => rG p l e R s m args below meth c cells slots Qs D aC ad 3 18 [(0, vR 12), (1, vI x1), (2, vI x2)] [] M) (fun x1 x2 M hb => s_m_read_B0 hC hQ (fun _ _ _ h => h) hb)
def w_m_read (M : Mem) (Q : Int → Mem → Prop) : Prop :=
  ∀ M2 : Mem, M2 = mset M 12 61 (-1) → ∀ M4 : Mem, M4 = mset M2 12 62 0 → w_m_first M4 (fun M6 => w_m_read_L0 Q 0 0 M6)
set_option maxRecDepth 100000 in
set_option maxHeartbeats 4000000 in
theorem s_m_read {M : Mem} {Q : Int → Mem → Prop} (hC : rC p R s m args meth c cells slots D aC ad 3 cX12_read RX12 5 119 (some .int)) (hQ : ∀ (pc : Nat) (L : List (Nat × RV)) (z : Int) (M : Mem), decode cX12_read pc = .ok (.ireturn, 1) → Q z M → rG p l e R s m args below meth c cells slots Qs D aC ad 3 pc L [vI z] M) (hw : w_m_read M Q) : rG p l e R s m args below meth c cells slots Qs D aC ad 3 0 [(0, vR 12)] [] M := by
  unfold w_m_read at hw
  refine r_aload_n hC dX12_read_0 rfl rfl ?_
  refine r_iconst hC dX12_read_1 ?_
  refine r_putI hC 61 rfl (by decide) kf12_150 rfl rfl (by decide) (by decide) dX12_read_2 ?_
  replace hw := hw _ rfl
  refine r_aload_n hC dX12_read_5 rfl rfl ?_
  refine r_iconst hC dX12_read_6 ?_
  refine r_putI hC 62 rfl (by decide) kf12_395 rfl rfl (by decide) (by decide) dX12_read_7 ?_
  replace hw := hw _ rfl
  refine r_aload_n hC dX12_read_10 rfl rfl ?_
  refine r_callV hC (d_m_first hw) rfl kC12_first km12_154 kI12_first kS12_first kN12 dd_12_first ⟨Nat.le_of_ble_eq_true rfl, Nat.le_of_ble_eq_true rfl⟩ rfl (Nat.le_of_ble_eq_true rfl) dX12_read_11 (fun r M' hp => ?_)
  obtain ⟨rfl, hw⟩ := hp
  try dsimp only at hw
  refine r_iconst hC dX12_read_14 ?_
  refine r_istore_n hC dX12_read_15 rfl (by decide) ?_
  refine r_iconst hC dX12_read_16 ?_
  refine r_istore_n hC dX12_read_17 rfl (by decide) ?_
  exact r_subk (s_m_read_L0 hC hQ hw) ⟨rfl, rfl, rfl, trivial⟩
set_option maxRecDepth 100000 in
set_option maxHeartbeats 4000000 in
theorem d_m_read {l : Launch} {D : va_G} {aC : Nat → ClassId} {ad : Nat → Nat} {M : Mem} {Q : Int → Mem → Prop} (hw : w_m_read M Q) : Does l D aC ad yX12_read cX12_read 3 (some .int) 5 119 [vR 12] M (pI Q) :=
  Does.of (by decide) (Nat.le_of_ble_eq_true rfl) (fun p e R s m args below meth c hC => r_subk (s_m_read hC (fun pc L z M d h => r_iret hC d ⟨z, rfl, h⟩) hw) ⟨rfl, trivial⟩)
/-- SoupSandModel.fault -/
def w_m_fault (M : Mem) (Q : Int → Prop) : Prop :=
  ∀ a1 : Int, a1 = M 12 61 → -1 ≤ a1 → a1 ≤ 200 → Q a1
set_option maxRecDepth 100000 in
set_option maxHeartbeats 4000000 in
theorem s_m_fault {M : Mem} {Q : Int → Prop} (hC : rC p R s m args meth c cells slots D aC ad 1 cX12_fault RX12 0 0 (some .int)) (hQ : ∀ (pc : Nat) (L : List (Nat × RV)) (z : Int), decode cX12_fault pc = .ok (.ireturn, 1) → Q z → rG p l e R s m args below meth c cells slots Qs D aC ad 1 pc L [vI z] M) (hw : w_m_fault M Q) : rG p l e R s m args below meth c cells slots Qs D aC ad 1 0 [(0, vR 12)] [] M := by
  unfold w_m_fault at hw
  refine r_aload_n hC dX12_fault_0 rfl rfl ?_
  refine r_getI hC 61 rfl (by decide) kf12_150 rfl rfl dX12_fault_1 (fun b2 b2' => ?_)
  replace hw := hw _ rfl b2 b2'
  exact hQ _ _ _ dX12_fault_4 hw
set_option maxRecDepth 100000 in
set_option maxHeartbeats 4000000 in
theorem d_m_fault {l : Launch} {D : va_G} {aC : Nat → ClassId} {ad : Nat → Nat} {M : Mem} {Q : Int → Prop} (hw : w_m_fault M Q) : Does l D aC ad yX12_fault cX12_fault 1 (some .int) 0 0 [vR 12] M (qI M Q) :=
  Does.of (by decide) (Nat.le_of_ble_eq_true rfl) (fun p e R s m args below meth c hC => r_subk (s_m_fault hC (fun pc L z d h => r_iret hC d ⟨rfl, ⟨z, rfl, h⟩⟩) hw) ⟨rfl, trivial⟩)
/-- SoupSandModel.rule -/
def w_m_rule (M : Mem) (x1 : Int) (Q : Int → Prop) : Prop :=
  (-2147483648 ≤ x1 ∧ x1 ≤ 2147483647) ∧ (w_m_in M x1 0 24 (fun a2 => (-2147483648 ≤ a2 ∧ a2 ≤ 2147483647) ∧ ((a2 = 0 → Q (-1002)) ∧ (¬ (a2 = 0) → (0 ≤ x1 ∧ x1 < 25) ∧ (∀ a7 : Int, a7 = M 64 x1 → 0 ≤ a7 → a7 ≤ 999 → Q a7)))))
set_option maxRecDepth 100000 in
set_option maxHeartbeats 4000000 in
theorem s_m_rule {M : Mem} {x1 : Int} {Q : Int → Prop} (hC : rC p R s m args meth c cells slots D aC ad 2 cX12_rule RX12 1 25 (some .int)) (hQ : ∀ (pc : Nat) (L : List (Nat × RV)) (z : Int), decode cX12_rule pc = .ok (.ireturn, 1) → Q z → rG p l e R s m args below meth c cells slots Qs D aC ad 2 pc L [vI z] M) (hw : w_m_rule M x1 Q) : rG p l e R s m args below meth c cells slots Qs D aC ad 2 0 [(0, vR 12), (1, vI x1)] [] M := by
  unfold w_m_rule at hw
  refine r_iload_n hC dX12_rule_0 rfl rfl ?_
  obtain ⟨o1, hw⟩ := hw
  refine r_i2l hC dX12_rule_1 o1.1 o1.2 ?_
  refine r_lconst hC 0 dX12_rule_2 (by decide) ?_
  refine r_ldc2 hC (24) dX12_rule_3 kL12_462 (by decide) ?_
  refine r_callS hC (d_m_in hw) kC12_in km12_165 kT12_in kN12 dd_12_in ⟨Nat.le_of_ble_eq_true rfl, Nat.le_of_ble_eq_true rfl⟩ rfl (Nat.le_of_ble_eq_true rfl) dX12_rule_6 (fun r M' hp => ?_)
  obtain ⟨rfl, a2, rfl, hw⟩ := hp
  try dsimp only at hw
  obtain ⟨o3, hw⟩ := hw
  obtain ⟨hwt, hwf⟩ := hw
  refine r_if_eq hC 21 dX12_rule_9 (by decide) o3.1 o3.2 (fun c5 => ?_) (fun c5 => ?_)
  · have hw := hwt c5
    refine r_sipush hC dX12_rule_21 (by decide) ?_
    exact hQ _ _ _ dX12_rule_24 hw
  · have hw := hwf c5
    refine r_aload_n hC dX12_rule_12 rfl rfl ?_
    refine r_getR hC 12 rfl (by decide) kf12_43 rfl rfl dX12_rule_13 ?_
    refine r_iload_n hC dX12_rule_16 rfl rfl ?_
    obtain ⟨o6, hw⟩ := hw
    refine r_iald hC rfl o6.1 o6.2 (by decide) (by decide) dX12_rule_17 (fun b8 b8' => ?_)
    replace hw := hw _ rfl b8 b8'
    refine r_goto hC 24 dX12_rule_18 (by decide) ?_
    exact hQ _ _ _ dX12_rule_24 hw
set_option maxRecDepth 100000 in
set_option maxHeartbeats 4000000 in
theorem d_m_rule {l : Launch} {D : va_G} {aC : Nat → ClassId} {ad : Nat → Nat} {M : Mem} {x1 : Int} {Q : Int → Prop} (hw : w_m_rule M x1 Q) : Does l D aC ad yX12_rule cX12_rule 2 (some .int) 1 25 [vR 12, vI x1] M (qI M Q) :=
  Does.of (by decide) (Nat.le_of_ble_eq_true rfl) (fun p e R s m args below meth c hC => r_subk (s_m_rule hC (fun pc L z d h => r_iret hC d ⟨rfl, ⟨z, rfl, h⟩⟩) hw) ⟨rfl, rfl, trivial⟩)
end
