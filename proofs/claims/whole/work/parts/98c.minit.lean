section
variable {p : Program} {l : Launch} {e : Env} {R : Room} {s : State} {m : MethodId} {args : Array Value} {below : List Frame} {meth : Method} {c : Code} {cells slots : Nat} {Qs : State → Prop} {D : va_G} {aC : Nat → ClassId} {ad : Nat → Nat}
def w_m_init_B0 (Q : Mem → Prop) (X383 : Int → Mem → Prop) (x1 : Int) (M : Mem) : Prop :=
  (-2147483648 ≤ x1 ∧ x1 ≤ 2147483647) ∧ ((6 ≤ x1 → w_m_first M (fun M5 => w_m_keep M5 (fun M7 => Q M7))) ∧ (¬ (6 ≤ x1) → (0 ≤ x1 ∧ x1 < 6) ∧ (∀ M9 : Mem, M9 = mset M 53 x1 500 → X383 (x1 + 1) M9)))
set_option maxRecDepth 100000 in
set_option maxHeartbeats 4000000 in
theorem s_m_init_B0 {Q : Mem → Prop} {X383 : Int → Mem → Prop} {x1 : Int} {M : Mem} (hC : rC p R s m args meth c cells slots D aC ad 2 cX12_init RX12 2 42 none) (hQ : ∀ (pc : Nat) (L : List (Nat × RV)) (M : Mem), decode cX12_init pc = .ok (.return_, 1) → Q M → rG p l e R s m args below meth c cells slots Qs D aC ad 2 pc L [] M) (hX383 : ∀ (x1 : Int) (M : Mem), X383 x1 M → rG p l e R s m args below meth c cells slots Qs D aC ad 2 383 [(0, vR 12), (1, vI x1)] [] M) (hw : w_m_init_B0 Q X383 x1 M) : rG p l e R s m args below meth c cells slots Qs D aC ad 2 383 [(0, vR 12), (1, vI x1)] [] M := by
  unfold w_m_init_B0 at hw
  refine r_iload_n hC dX12_init_383 rfl rfl ?_
  refine r_bipush hC dX12_init_384 (by decide) ?_
  obtain ⟨o1, hw⟩ := hw
  obtain ⟨hwt, hwf⟩ := hw
  refine r_icmp_ge hC 404 dX12_init_386 (by decide) o1.1 o1.2 (by decide) (by decide) (fun c3 => ?_) (fun c3 => ?_)
  · have hw := hwt c3
    refine r_aload_n hC dX12_init_404 rfl rfl ?_
    refine r_callV hC (d_m_first hw) rfl kC12_first km12_154 kI12_first kS12_first kN12 dd_12_first ⟨Nat.le_of_ble_eq_true rfl, Nat.le_of_ble_eq_true rfl⟩ rfl (Nat.le_of_ble_eq_true rfl) dX12_init_405 (fun r M' hp => ?_)
    obtain ⟨rfl, hw⟩ := hp
    try dsimp only at hw
    refine r_aload_n hC dX12_init_408 rfl rfl ?_
    refine r_callV hC (d_m_keep hw) rfl kC12_keep km12_157 kI12_keep kS12_keep kN12 dd_12_keep ⟨Nat.le_of_ble_eq_true rfl, Nat.le_of_ble_eq_true rfl⟩ rfl (Nat.le_of_ble_eq_true rfl) dX12_init_409 (fun r M' hp => ?_)
    obtain ⟨rfl, hw⟩ := hp
    try dsimp only at hw
    exact hQ _ _ _ dX12_init_412 hw
  · have hw := hwf c3
    refine r_aload_n hC dX12_init_389 rfl rfl ?_
    refine r_getR hC 0 rfl (by decide) kf12_7 rfl rfl dX12_init_390 ?_
    refine r_iload_n hC dX12_init_393 rfl rfl ?_
    refine r_sipush hC dX12_init_394 (by decide) ?_
    obtain ⟨o8, hw⟩ := hw
    refine r_iast hC rfl o8.1 o8.2 (by decide) (by decide) (by decide) (by decide) dX12_init_397 ?_
    replace hw := hw _ rfl
    refine r_iinc hC dX12_init_398 rfl (by decide) ?_
    refine r_goto hC 383 dX12_init_401 (by decide) ?_
    exact r_subk (hX383 _ _ hw) ⟨rfl, rfl, trivial⟩
def w_m_init_L0 (Q : Mem → Prop) (x1 : Int) (M : Mem) : Prop :=
  ∀ X : Int → Mem → Prop, (∀ (x1 : Int) (M : Mem), w_m_init_B0 Q X x1 M → X x1 M) → X x1 M
set_option maxRecDepth 100000 in
set_option maxHeartbeats 4000000 in
theorem s_m_init_L0 {Q : Mem → Prop} {x1 : Int} {M : Mem} (hC : rC p R s m args meth c cells slots D aC ad 2 cX12_init RX12 2 42 none) (hQ : ∀ (pc : Nat) (L : List (Nat × RV)) (M : Mem), decode cX12_init pc = .ok (.return_, 1) → Q M → rG p l e R s m args below meth c cells slots Qs D aC ad 2 pc L [] M) (hw : w_m_init_L0 Q x1 M) : rG p l e R s m args below meth c cells slots Qs D aC ad 2 383 [(0, vR 12), (1, vI x1)] [] M := by
  unfold w_m_init_L0 at hw
  exact hw (fun x1 M => rG p l e R s m args below meth c cells slots Qs D aC ad 2 383 [(0, vR 12), (1, vI x1)] [] M) (fun x1 M hb => s_m_init_B0 hC hQ (fun _ _ h => h) hb)
end
