section
variable {p : Program} {l : Launch} {e : Env} {R : Room} {s : State} {m : MethodId} {args : Array Value} {below : List Frame} {meth : Method} {c : Code} {cells slots : Nat} {Qs : State → Prop} {D : va_G} {aC : Nat → ClassId} {ad : Nat → Nat}
theorem dd_11_about : yX11_about.cls ≠ "java/lang/invoke/MethodHandle" ∧ yX11_about.cls ≠ "java/lang/invoke/VarHandle" ∧ (parseMethodDescriptor yX11_about.desc).map (fun d => d.parameters.length) = some 3 := by decide +kernel
theorem dd_11_bars : yX11_bars.cls ≠ "java/lang/invoke/MethodHandle" ∧ yX11_bars.cls ≠ "java/lang/invoke/VarHandle" ∧ (parseMethodDescriptor yX11_bars.desc).map (fun d => d.parameters.length) = some 1 := by decide +kernel
theorem dd_11_beat : yX11_beat.cls ≠ "java/lang/invoke/MethodHandle" ∧ yX11_beat.cls ≠ "java/lang/invoke/VarHandle" ∧ (parseMethodDescriptor yX11_beat.desc).map (fun d => d.parameters.length) = some 2 := by decide +kernel
theorem dd_11_choices : yX11_choices.cls ≠ "java/lang/invoke/MethodHandle" ∧ yX11_choices.cls ≠ "java/lang/invoke/VarHandle" ∧ (parseMethodDescriptor yX11_choices.desc).map (fun d => d.parameters.length) = some 4 := by decide +kernel
theorem dd_11_column : yX11_column.cls ≠ "java/lang/invoke/MethodHandle" ∧ yX11_column.cls ≠ "java/lang/invoke/VarHandle" ∧ (parseMethodDescriptor yX11_column.desc).map (fun d => d.parameters.length) = some 3 := by decide +kernel
theorem dd_11_count : yX11_count.cls ≠ "java/lang/invoke/MethodHandle" ∧ yX11_count.cls ≠ "java/lang/invoke/VarHandle" ∧ (parseMethodDescriptor yX11_count.desc).map (fun d => d.parameters.length) = some 1 := by decide +kernel
theorem dd_11_fault : yX11_fault.cls ≠ "java/lang/invoke/MethodHandle" ∧ yX11_fault.cls ≠ "java/lang/invoke/VarHandle" ∧ (parseMethodDescriptor yX11_fault.desc).map (fun d => d.parameters.length) = some 0 := by decide +kernel
theorem dd_11_feed : yX11_feed.cls ≠ "java/lang/invoke/MethodHandle" ∧ yX11_feed.cls ≠ "java/lang/invoke/VarHandle" ∧ (parseMethodDescriptor yX11_feed.desc).map (fun d => d.parameters.length) = some 2 := by decide +kernel
theorem dd_11_floats : yX11_floats.cls ≠ "java/lang/invoke/MethodHandle" ∧ yX11_floats.cls ≠ "java/lang/invoke/VarHandle" ∧ (parseMethodDescriptor yX11_floats.desc).map (fun d => d.parameters.length) = some 2 := by decide +kernel
theorem dd_11_house : yX11_house.cls ≠ "java/lang/invoke/MethodHandle" ∧ yX11_house.cls ≠ "java/lang/invoke/VarHandle" ∧ (parseMethodDescriptor yX11_house.desc).map (fun d => d.parameters.length) = some 3 := by decide +kernel
theorem dd_11_layer : yX11_layer.cls ≠ "java/lang/invoke/MethodHandle" ∧ yX11_layer.cls ≠ "java/lang/invoke/VarHandle" ∧ (parseMethodDescriptor yX11_layer.desc).map (fun d => d.parameters.length) = some 4 := by decide +kernel
theorem dd_11_lean : yX11_lean.cls ≠ "java/lang/invoke/MethodHandle" ∧ yX11_lean.cls ≠ "java/lang/invoke/VarHandle" ∧ (parseMethodDescriptor yX11_lean.desc).map (fun d => d.parameters.length) = some 3 := by decide +kernel
theorem dd_11_least : yX11_least.cls ≠ "java/lang/invoke/MethodHandle" ∧ yX11_least.cls ≠ "java/lang/invoke/VarHandle" ∧ (parseMethodDescriptor yX11_least.desc).map (fun d => d.parameters.length) = some 2 := by decide +kernel
theorem dd_11_led : yX11_led.cls ≠ "java/lang/invoke/MethodHandle" ∧ yX11_led.cls ≠ "java/lang/invoke/VarHandle" ∧ (parseMethodDescriptor yX11_led.desc).map (fun d => d.parameters.length) = some 3 := by decide +kernel
theorem dd_11_loose : yX11_loose.cls ≠ "java/lang/invoke/MethodHandle" ∧ yX11_loose.cls ≠ "java/lang/invoke/VarHandle" ∧ (parseMethodDescriptor yX11_loose.desc).map (fun d => d.parameters.length) = some 4 := by decide +kernel
theorem dd_11_loss : yX11_loss.cls ≠ "java/lang/invoke/MethodHandle" ∧ yX11_loss.cls ≠ "java/lang/invoke/VarHandle" ∧ (parseMethodDescriptor yX11_loss.desc).map (fun d => d.parameters.length) = some 0 := by decide +kernel
theorem dd_11_margin : yX11_margin.cls ≠ "java/lang/invoke/MethodHandle" ∧ yX11_margin.cls ≠ "java/lang/invoke/VarHandle" ∧ (parseMethodDescriptor yX11_margin.desc).map (fun d => d.parameters.length) = some 5 := by decide +kernel
theorem dd_11_odds : yX11_odds.cls ≠ "java/lang/invoke/MethodHandle" ∧ yX11_odds.cls ≠ "java/lang/invoke/VarHandle" ∧ (parseMethodDescriptor yX11_odds.desc).map (fun d => d.parameters.length) = some 4 := by decide +kernel
theorem dd_11_plan : yX11_plan.cls ≠ "java/lang/invoke/MethodHandle" ∧ yX11_plan.cls ≠ "java/lang/invoke/VarHandle" ∧ (parseMethodDescriptor yX11_plan.desc).map (fun d => d.parameters.length) = some 1 := by decide +kernel
theorem dd_11_read : yX11_read.cls ≠ "java/lang/invoke/MethodHandle" ∧ yX11_read.cls ≠ "java/lang/invoke/VarHandle" ∧ (parseMethodDescriptor yX11_read.desc).map (fun d => d.parameters.length) = some 0 := by decide +kernel
theorem dd_11_rule : yX11_rule.cls ≠ "java/lang/invoke/MethodHandle" ∧ yX11_rule.cls ≠ "java/lang/invoke/VarHandle" ∧ (parseMethodDescriptor yX11_rule.desc).map (fun d => d.parameters.length) = some 1 := by decide +kernel
theorem dd_11_run : yX11_run.cls ≠ "java/lang/invoke/MethodHandle" ∧ yX11_run.cls ≠ "java/lang/invoke/VarHandle" ∧ (parseMethodDescriptor yX11_run.desc).map (fun d => d.parameters.length) = some 4 := by decide +kernel
theorem dd_11_shake : yX11_shake.cls ≠ "java/lang/invoke/MethodHandle" ∧ yX11_shake.cls ≠ "java/lang/invoke/VarHandle" ∧ (parseMethodDescriptor yX11_shake.desc).map (fun d => d.parameters.length) = some 1 := by decide +kernel
theorem dd_11_sink : yX11_sink.cls ≠ "java/lang/invoke/MethodHandle" ∧ yX11_sink.cls ≠ "java/lang/invoke/VarHandle" ∧ (parseMethodDescriptor yX11_sink.desc).map (fun d => d.parameters.length) = some 3 := by decide +kernel
theorem dd_11_stands : yX11_stands.cls ≠ "java/lang/invoke/MethodHandle" ∧ yX11_stands.cls ≠ "java/lang/invoke/VarHandle" ∧ (parseMethodDescriptor yX11_stands.desc).map (fun d => d.parameters.length) = some 1 := by decide +kernel
theorem dd_11_step : yX11_step.cls ≠ "java/lang/invoke/MethodHandle" ∧ yX11_step.cls ≠ "java/lang/invoke/VarHandle" ∧ (parseMethodDescriptor yX11_step.desc).map (fun d => d.parameters.length) = some 4 := by decide +kernel
theorem dd_11_strike : yX11_strike.cls ≠ "java/lang/invoke/MethodHandle" ∧ yX11_strike.cls ≠ "java/lang/invoke/VarHandle" ∧ (parseMethodDescriptor yX11_strike.desc).map (fun d => d.parameters.length) = some 2 := by decide +kernel
theorem dd_11_sunk : yX11_sunk.cls ≠ "java/lang/invoke/MethodHandle" ∧ yX11_sunk.cls ≠ "java/lang/invoke/VarHandle" ∧ (parseMethodDescriptor yX11_sunk.desc).map (fun d => d.parameters.length) = some 3 := by decide +kernel
theorem dd_11_tank : yX11_tank.cls ≠ "java/lang/invoke/MethodHandle" ∧ yX11_tank.cls ≠ "java/lang/invoke/VarHandle" ∧ (parseMethodDescriptor yX11_tank.desc).map (fun d => d.parameters.length) = some 4 := by decide +kernel
theorem dd_11_toStrike : yX11_toStrike.cls ≠ "java/lang/invoke/MethodHandle" ∧ yX11_toStrike.cls ≠ "java/lang/invoke/VarHandle" ∧ (parseMethodDescriptor yX11_toStrike.desc).map (fun d => d.parameters.length) = some 1 := by decide +kernel
theorem dd_11_word : yX11_word.cls ≠ "java/lang/invoke/MethodHandle" ∧ yX11_word.cls ≠ "java/lang/invoke/VarHandle" ∧ (parseMethodDescriptor yX11_word.desc).map (fun d => d.parameters.length) = some 5 := by decide +kernel
theorem dd_11_work : yX11_work.cls ≠ "java/lang/invoke/MethodHandle" ∧ yX11_work.cls ≠ "java/lang/invoke/VarHandle" ∧ (parseMethodDescriptor yX11_work.desc).map (fun d => d.parameters.length) = some 4 := by decide +kernel
theorem dd_12_about : yX12_about.cls ≠ "java/lang/invoke/MethodHandle" ∧ yX12_about.cls ≠ "java/lang/invoke/VarHandle" ∧ (parseMethodDescriptor yX12_about.desc).map (fun d => d.parameters.length) = some 3 := by decide +kernel
theorem dd_12_bars : yX12_bars.cls ≠ "java/lang/invoke/MethodHandle" ∧ yX12_bars.cls ≠ "java/lang/invoke/VarHandle" ∧ (parseMethodDescriptor yX12_bars.desc).map (fun d => d.parameters.length) = some 1 := by decide +kernel
theorem dd_12_beat : yX12_beat.cls ≠ "java/lang/invoke/MethodHandle" ∧ yX12_beat.cls ≠ "java/lang/invoke/VarHandle" ∧ (parseMethodDescriptor yX12_beat.desc).map (fun d => d.parameters.length) = some 2 := by decide +kernel
theorem dd_12_choices : yX12_choices.cls ≠ "java/lang/invoke/MethodHandle" ∧ yX12_choices.cls ≠ "java/lang/invoke/VarHandle" ∧ (parseMethodDescriptor yX12_choices.desc).map (fun d => d.parameters.length) = some 4 := by decide +kernel
theorem dd_12_column : yX12_column.cls ≠ "java/lang/invoke/MethodHandle" ∧ yX12_column.cls ≠ "java/lang/invoke/VarHandle" ∧ (parseMethodDescriptor yX12_column.desc).map (fun d => d.parameters.length) = some 3 := by decide +kernel
theorem dd_12_count : yX12_count.cls ≠ "java/lang/invoke/MethodHandle" ∧ yX12_count.cls ≠ "java/lang/invoke/VarHandle" ∧ (parseMethodDescriptor yX12_count.desc).map (fun d => d.parameters.length) = some 1 := by decide +kernel
theorem dd_12_fault : yX12_fault.cls ≠ "java/lang/invoke/MethodHandle" ∧ yX12_fault.cls ≠ "java/lang/invoke/VarHandle" ∧ (parseMethodDescriptor yX12_fault.desc).map (fun d => d.parameters.length) = some 0 := by decide +kernel
theorem dd_12_feed : yX12_feed.cls ≠ "java/lang/invoke/MethodHandle" ∧ yX12_feed.cls ≠ "java/lang/invoke/VarHandle" ∧ (parseMethodDescriptor yX12_feed.desc).map (fun d => d.parameters.length) = some 2 := by decide +kernel
theorem dd_12_floats : yX12_floats.cls ≠ "java/lang/invoke/MethodHandle" ∧ yX12_floats.cls ≠ "java/lang/invoke/VarHandle" ∧ (parseMethodDescriptor yX12_floats.desc).map (fun d => d.parameters.length) = some 2 := by decide +kernel
theorem dd_12_house : yX12_house.cls ≠ "java/lang/invoke/MethodHandle" ∧ yX12_house.cls ≠ "java/lang/invoke/VarHandle" ∧ (parseMethodDescriptor yX12_house.desc).map (fun d => d.parameters.length) = some 3 := by decide +kernel
theorem dd_12_layer : yX12_layer.cls ≠ "java/lang/invoke/MethodHandle" ∧ yX12_layer.cls ≠ "java/lang/invoke/VarHandle" ∧ (parseMethodDescriptor yX12_layer.desc).map (fun d => d.parameters.length) = some 4 := by decide +kernel
theorem dd_12_lean : yX12_lean.cls ≠ "java/lang/invoke/MethodHandle" ∧ yX12_lean.cls ≠ "java/lang/invoke/VarHandle" ∧ (parseMethodDescriptor yX12_lean.desc).map (fun d => d.parameters.length) = some 3 := by decide +kernel
theorem dd_12_least : yX12_least.cls ≠ "java/lang/invoke/MethodHandle" ∧ yX12_least.cls ≠ "java/lang/invoke/VarHandle" ∧ (parseMethodDescriptor yX12_least.desc).map (fun d => d.parameters.length) = some 2 := by decide +kernel
theorem dd_12_led : yX12_led.cls ≠ "java/lang/invoke/MethodHandle" ∧ yX12_led.cls ≠ "java/lang/invoke/VarHandle" ∧ (parseMethodDescriptor yX12_led.desc).map (fun d => d.parameters.length) = some 3 := by decide +kernel
theorem dd_12_loose : yX12_loose.cls ≠ "java/lang/invoke/MethodHandle" ∧ yX12_loose.cls ≠ "java/lang/invoke/VarHandle" ∧ (parseMethodDescriptor yX12_loose.desc).map (fun d => d.parameters.length) = some 4 := by decide +kernel
theorem dd_12_loss : yX12_loss.cls ≠ "java/lang/invoke/MethodHandle" ∧ yX12_loss.cls ≠ "java/lang/invoke/VarHandle" ∧ (parseMethodDescriptor yX12_loss.desc).map (fun d => d.parameters.length) = some 0 := by decide +kernel
theorem dd_12_margin : yX12_margin.cls ≠ "java/lang/invoke/MethodHandle" ∧ yX12_margin.cls ≠ "java/lang/invoke/VarHandle" ∧ (parseMethodDescriptor yX12_margin.desc).map (fun d => d.parameters.length) = some 5 := by decide +kernel
theorem dd_12_odds : yX12_odds.cls ≠ "java/lang/invoke/MethodHandle" ∧ yX12_odds.cls ≠ "java/lang/invoke/VarHandle" ∧ (parseMethodDescriptor yX12_odds.desc).map (fun d => d.parameters.length) = some 4 := by decide +kernel
theorem dd_12_plan : yX12_plan.cls ≠ "java/lang/invoke/MethodHandle" ∧ yX12_plan.cls ≠ "java/lang/invoke/VarHandle" ∧ (parseMethodDescriptor yX12_plan.desc).map (fun d => d.parameters.length) = some 1 := by decide +kernel
theorem dd_12_read : yX12_read.cls ≠ "java/lang/invoke/MethodHandle" ∧ yX12_read.cls ≠ "java/lang/invoke/VarHandle" ∧ (parseMethodDescriptor yX12_read.desc).map (fun d => d.parameters.length) = some 0 := by decide +kernel
theorem dd_12_rule : yX12_rule.cls ≠ "java/lang/invoke/MethodHandle" ∧ yX12_rule.cls ≠ "java/lang/invoke/VarHandle" ∧ (parseMethodDescriptor yX12_rule.desc).map (fun d => d.parameters.length) = some 1 := by decide +kernel
theorem dd_12_run : yX12_run.cls ≠ "java/lang/invoke/MethodHandle" ∧ yX12_run.cls ≠ "java/lang/invoke/VarHandle" ∧ (parseMethodDescriptor yX12_run.desc).map (fun d => d.parameters.length) = some 4 := by decide +kernel
theorem dd_12_shake : yX12_shake.cls ≠ "java/lang/invoke/MethodHandle" ∧ yX12_shake.cls ≠ "java/lang/invoke/VarHandle" ∧ (parseMethodDescriptor yX12_shake.desc).map (fun d => d.parameters.length) = some 1 := by decide +kernel
theorem dd_12_sink : yX12_sink.cls ≠ "java/lang/invoke/MethodHandle" ∧ yX12_sink.cls ≠ "java/lang/invoke/VarHandle" ∧ (parseMethodDescriptor yX12_sink.desc).map (fun d => d.parameters.length) = some 3 := by decide +kernel
theorem dd_12_stands : yX12_stands.cls ≠ "java/lang/invoke/MethodHandle" ∧ yX12_stands.cls ≠ "java/lang/invoke/VarHandle" ∧ (parseMethodDescriptor yX12_stands.desc).map (fun d => d.parameters.length) = some 1 := by decide +kernel
theorem dd_12_step : yX12_step.cls ≠ "java/lang/invoke/MethodHandle" ∧ yX12_step.cls ≠ "java/lang/invoke/VarHandle" ∧ (parseMethodDescriptor yX12_step.desc).map (fun d => d.parameters.length) = some 4 := by decide +kernel
theorem dd_12_strike : yX12_strike.cls ≠ "java/lang/invoke/MethodHandle" ∧ yX12_strike.cls ≠ "java/lang/invoke/VarHandle" ∧ (parseMethodDescriptor yX12_strike.desc).map (fun d => d.parameters.length) = some 2 := by decide +kernel
theorem dd_12_sunk : yX12_sunk.cls ≠ "java/lang/invoke/MethodHandle" ∧ yX12_sunk.cls ≠ "java/lang/invoke/VarHandle" ∧ (parseMethodDescriptor yX12_sunk.desc).map (fun d => d.parameters.length) = some 3 := by decide +kernel
theorem dd_12_tank : yX12_tank.cls ≠ "java/lang/invoke/MethodHandle" ∧ yX12_tank.cls ≠ "java/lang/invoke/VarHandle" ∧ (parseMethodDescriptor yX12_tank.desc).map (fun d => d.parameters.length) = some 4 := by decide +kernel
theorem dd_12_toStrike : yX12_toStrike.cls ≠ "java/lang/invoke/MethodHandle" ∧ yX12_toStrike.cls ≠ "java/lang/invoke/VarHandle" ∧ (parseMethodDescriptor yX12_toStrike.desc).map (fun d => d.parameters.length) = some 1 := by decide +kernel
theorem dd_12_word : yX12_word.cls ≠ "java/lang/invoke/MethodHandle" ∧ yX12_word.cls ≠ "java/lang/invoke/VarHandle" ∧ (parseMethodDescriptor yX12_word.desc).map (fun d => d.parameters.length) = some 5 := by decide +kernel
theorem dd_12_work : yX12_work.cls ≠ "java/lang/invoke/MethodHandle" ∧ yX12_work.cls ≠ "java/lang/invoke/VarHandle" ∧ (parseMethodDescriptor yX12_work.desc).map (fun d => d.parameters.length) = some 4 := by decide +kernel
def w_law_law_j1 (n : Nat) (sx : Int → Int) (Q : Int → Mem → Prop) (X18 : Int → Mem → Prop) (x3 : Int) (s0 : Int) (s2 : Int) (s3 : Int) (M : Mem) : Prop :=
  w_m_strike M s2 s3 (fun a1 M2 => s0 = a1 ∧ (X18 (x3 + 6) M2))
set_option maxRecDepth 100000 in
set_option maxHeartbeats 4000000 in
theorem s_law_law_j1 {n : Nat} {sx : Int → Int} {Q : Int → Mem → Prop} {X18 : Int → Mem → Prop} {x3 : Int} {s0 : Int} {s2 : Int} {s3 : Int} {M : Mem} (hC : rC p R s m args meth c cells slots D aC ad 4 cL_law RL 11 266 (some .boolean)) (hX : scr ad n sx s) (hQ : ∀ (pc : Nat) (L : List (Nat × RV)) (z : Int) (M : Mem), decode cL_law pc = .ok (.ireturn, 1) → 0 ≤ z → z ≤ 1 → Q z M → rG p l e R s m args below meth c cells slots Qs D aC ad 4 pc L [vI z] M) (hX18 : ∀ (x3 : Int) (M : Mem), X18 x3 M → rG p l e R s m args below meth c cells slots Qs D aC ad 4 18 [(0, vR 250), (1, vR 0), (2, vR 12), (3, vI x3)] [] M) (hw : w_law_law_j1 n sx Q X18 x3 s0 s2 s3 M) : rG p l e R s m args below meth c cells slots Qs D aC ad 4 764 [(0, vR 250), (1, vR 0), (2, vR 12), (3, vI x3)] [vI s3, vI s2, vR 12, vI s0] M := by
  unfold w_law_law_j1 at hw
  refine r_callV hC (d_m_strike hw) rfl kC12_strike kmL_71 kI12_strike kS12_strike kN12 dd_12_strike ⟨Nat.le_of_ble_eq_true rfl, Nat.le_of_ble_eq_true rfl⟩ rfl (Nat.le_of_ble_eq_true rfl) dL_law_764 (fun r M' hp => ?_)
  obtain ⟨a1, rfl, hw⟩ := hp
  try dsimp only at hw
  obtain ⟨o3, hw⟩ := hw
  refine r_icmp_same hC 1443 dL_law_767 (by decide) o3 ?_
  refine r_iinc hC dL_law_1443 rfl (by decide) ?_
  refine r_goto hC 18 dL_law_1446 (by decide) ?_
  exact r_subk (hX18 _ _ hw) ⟨rfl, rfl, rfl, rfl, trivial⟩
def w_law_law_j0 (n : Nat) (sx : Int → Int) (Q : Int → Mem → Prop) (X18 : Int → Mem → Prop) (x3 : Int) (s1 : Int) (s2 : Int) (M : Mem) : Prop :=
  w_S_strike M s1 s2 (fun a1 M2 => (0 ≤ x3 + 1 ∧ x3 + 1 < n) ∧ ((0 ≤ x3 + 2 ∧ x3 + 2 < n) ∧ ((-2147483648 ≤ sx (x3 + 2) ∧ sx (x3 + 2) ≤ 2147483647) ∧ ((sx (x3 + 2) = 0 → w_law_law_j1 n sx Q X18 x3 a1 (sx (x3 + 1)) 0 M2) ∧ (¬ (sx (x3 + 2) = 0) → w_law_law_j1 n sx Q X18 x3 a1 (sx (x3 + 1)) 1 M2)))))
set_option maxRecDepth 100000 in
set_option maxHeartbeats 4000000 in
theorem s_law_law_j0 {n : Nat} {sx : Int → Int} {Q : Int → Mem → Prop} {X18 : Int → Mem → Prop} {x3 : Int} {s1 : Int} {s2 : Int} {M : Mem} (hC : rC p R s m args meth c cells slots D aC ad 4 cL_law RL 11 266 (some .boolean)) (hX : scr ad n sx s) (hQ : ∀ (pc : Nat) (L : List (Nat × RV)) (z : Int) (M : Mem), decode cL_law pc = .ok (.ireturn, 1) → 0 ≤ z → z ≤ 1 → Q z M → rG p l e R s m args below meth c cells slots Qs D aC ad 4 pc L [vI z] M) (hX18 : ∀ (x3 : Int) (M : Mem), X18 x3 M → rG p l e R s m args below meth c cells slots Qs D aC ad 4 18 [(0, vR 250), (1, vR 0), (2, vR 12), (3, vI x3)] [] M) (hw : w_law_law_j0 n sx Q X18 x3 s1 s2 M) : rG p l e R s m args below meth c cells slots Qs D aC ad 4 742 [(0, vR 250), (1, vR 0), (2, vR 12), (3, vI x3)] [vI s2, vI s1, vR 0] M := by
  unfold w_law_law_j0 at hw
  refine r_callV hC (d_S_strike hw) rfl kC11_strike kmL_67 kI11_strike kS11_strike kN11 dd_11_strike ⟨Nat.le_of_ble_eq_true rfl, Nat.le_of_ble_eq_true rfl⟩ rfl (Nat.le_of_ble_eq_true rfl) dL_law_742 (fun r M' hp => ?_)
  obtain ⟨a1, rfl, hw⟩ := hp
  try dsimp only at hw
  refine r_aload_n hC dL_law_745 rfl rfl ?_
  refine r_aload_n hC dL_law_746 rfl rfl ?_
  refine r_iload_n hC dL_law_747 rfl rfl ?_
  refine r_iconst hC dL_law_748 ?_
  refine r_iadd hC dL_law_749 ?_
  obtain ⟨o3, hw⟩ := hw
  refine r_sld hC hX o3.1 o3.2 dL_law_750 ?_
  refine r_aload_n hC dL_law_751 rfl rfl ?_
  refine r_iload_n hC dL_law_752 rfl rfl ?_
  refine r_iconst hC dL_law_753 ?_
  refine r_iadd hC dL_law_754 ?_
  obtain ⟨o4, hw⟩ := hw
  refine r_sld hC hX o4.1 o4.2 dL_law_755 ?_
  obtain ⟨o5, hw⟩ := hw
  obtain ⟨hwt, hwf⟩ := hw
  refine r_if_eq hC 763 dL_law_756 (by decide) o5.1 o5.2 (fun c7 => ?_) (fun c7 => ?_)
  · have hw := hwt c7
    refine r_iconst hC dL_law_763 ?_
    exact r_subk (s_law_law_j1 hC hX hQ hX18 hw) ⟨rfl, rfl, rfl, rfl, trivial⟩
  · have hw := hwf c7
    refine r_iconst hC dL_law_759 ?_
    refine r_goto hC 764 dL_law_760 (by decide) ?_
    exact r_subk (s_law_law_j1 hC hX hQ hX18 hw) ⟨rfl, rfl, rfl, rfl, trivial⟩
def w_law_law_B0 (n : Nat) (sx : Int → Int) (Q : Int → Mem → Prop) (X18 : Int → Mem → Prop) (x3 : Int) (M : Mem) : Prop :=
  (-2147483648 ≤ x3 ∧ x3 ≤ 2147483647) ∧ ((-2147483648 ≤ (n : Int) - 6 ∧ (n : Int) - 6 ≤ 2147483647) ∧ (((n : Int) - 6 < x3 → Q 1 M) ∧ (¬ ((n : Int) - 6 < x3) → (0 ≤ x3 ∧ x3 < n) ∧ ((-2147483648 ≤ bAnd (sx x3) 31 ∧ bAnd (sx x3) 31 ≤ 2147483647) ∧ (((bAnd (sx x3) 31 < 0 ∨ 31 < bAnd (sx x3) 31) → X18 (x3 + 6) M) ∧ (bAnd (sx x3) 31 = 0 → (0 ≤ x3 + 1 ∧ x3 + 1 < n) ∧ ((0 ≤ x3 + 2 ∧ x3 + 2 < n) ∧ ((0 ≤ x3 + 3 ∧ x3 + 3 < n) ∧ (w_S_column M (sx (x3 + 1)) (sx (x3 + 2)) (sx (x3 + 3)) (fun a11 M12 => (0 ≤ x3 + 1 ∧ x3 + 1 < n) ∧ ((0 ≤ x3 + 2 ∧ x3 + 2 < n) ∧ ((0 ≤ x3 + 3 ∧ x3 + 3 < n) ∧ (w_m_column M12 (sx (x3 + 1)) (sx (x3 + 2)) (sx (x3 + 3)) (fun a16 M17 => a11 = a16 ∧ (X18 (x3 + 6) M17)))))))))) ∧ (bAnd (sx x3) 31 = 1 → (0 ≤ x3 + 1 ∧ x3 + 1 < n) ∧ ((0 ≤ x3 + 2 ∧ x3 + 2 < n) ∧ ((0 ≤ x3 + 3 ∧ x3 + 3 < n) ∧ ((0 ≤ x3 + 4 ∧ x3 + 4 < n) ∧ (w_S_layer M (sx (x3 + 1)) (sx (x3 + 2)) (sx (x3 + 3)) (sx (x3 + 4)) (fun a23 M24 => (0 ≤ x3 + 1 ∧ x3 + 1 < n) ∧ ((0 ≤ x3 + 2 ∧ x3 + 2 < n) ∧ ((0 ≤ x3 + 3 ∧ x3 + 3 < n) ∧ ((0 ≤ x3 + 4 ∧ x3 + 4 < n) ∧ (w_m_layer M24 (sx (x3 + 1)) (sx (x3 + 2)) (sx (x3 + 3)) (sx (x3 + 4)) (fun a29 M30 => a23 = a29 ∧ (X18 (x3 + 6) M30)))))))))))) ∧ (bAnd (sx x3) 31 = 2 → (0 ≤ x3 + 1 ∧ x3 + 1 < n) ∧ ((0 ≤ x3 + 2 ∧ x3 + 2 < n) ∧ ((0 ≤ x3 + 3 ∧ x3 + 3 < n) ∧ ((0 ≤ x3 + 4 ∧ x3 + 4 < n) ∧ (w_S_loose M (sx (x3 + 1)) (sx (x3 + 2)) (sx (x3 + 3)) (sx (x3 + 4)) (fun a36 M37 => (0 ≤ x3 + 1 ∧ x3 + 1 < n) ∧ ((0 ≤ x3 + 2 ∧ x3 + 2 < n) ∧ ((0 ≤ x3 + 3 ∧ x3 + 3 < n) ∧ ((0 ≤ x3 + 4 ∧ x3 + 4 < n) ∧ (w_m_loose M37 (sx (x3 + 1)) (sx (x3 + 2)) (sx (x3 + 3)) (sx (x3 + 4)) (fun a42 M43 => a36 = a42 ∧ (X18 (x3 + 6) M43)))))))))))) ∧ (bAnd (sx x3) 31 = 3 → (0 ≤ x3 + 1 ∧ x3 + 1 < n) ∧ ((0 ≤ x3 + 2 ∧ x3 + 2 < n) ∧ ((0 ≤ x3 + 3 ∧ x3 + 3 < n) ∧ (w_S_about M (sx (x3 + 1)) (sx (x3 + 2)) (sx (x3 + 3)) (fun a48 => (0 ≤ x3 + 1 ∧ x3 + 1 < n) ∧ ((0 ≤ x3 + 2 ∧ x3 + 2 < n) ∧ ((0 ≤ x3 + 3 ∧ x3 + 3 < n) ∧ (w_m_about M (sx (x3 + 1)) (sx (x3 + 2)) (sx (x3 + 3)) (fun a52 => a48 = a52 ∧ (X18 (x3 + 6) M)))))))))) ∧ (bAnd (sx x3) 31 = 4 → (0 ≤ x3 + 1 ∧ x3 + 1 < n) ∧ (w_S_shake M (sx (x3 + 1)) (fun a55 M56 => (0 ≤ x3 + 1 ∧ x3 + 1 < n) ∧ (w_m_shake M56 (sx (x3 + 1)) (fun a58 M59 => a55 = a58 ∧ (X18 (x3 + 6) M59)))))) ∧ (bAnd (sx x3) 31 = 5 → (0 ≤ x3 + 1 ∧ x3 + 1 < n) ∧ ((0 ≤ x3 + 2 ∧ x3 + 2 < n) ∧ (w_S_beat M (sx (x3 + 1)) (sx (x3 + 2)) (fun a63 M64 => (0 ≤ x3 + 1 ∧ x3 + 1 < n) ∧ ((0 ≤ x3 + 2 ∧ x3 + 2 < n) ∧ (w_m_beat M64 (sx (x3 + 1)) (sx (x3 + 2)) (fun a67 M68 => a63 = a67 ∧ (X18 (x3 + 6) M68)))))))) ∧ (bAnd (sx x3) 31 = 6 → (0 ≤ x3 + 1 ∧ x3 + 1 < n) ∧ (w_S_count M (sx (x3 + 1)) (fun a71 => (0 ≤ x3 + 1 ∧ x3 + 1 < n) ∧ (w_m_count M (sx (x3 + 1)) (fun a73 => a71 = a73 ∧ (X18 (x3 + 6) M)))))) ∧ (bAnd (sx x3) 31 = 7 → (0 ≤ x3 + 1 ∧ x3 + 1 < n) ∧ ((0 ≤ x3 + 2 ∧ x3 + 2 < n) ∧ ((0 ≤ x3 + 3 ∧ x3 + 3 < n) ∧ ((0 ≤ x3 + 4 ∧ x3 + 4 < n) ∧ (w_S_run M (sx (x3 + 1)) (sx (x3 + 2)) (sx (x3 + 3)) (sx (x3 + 4)) (fun a79 M80 => (0 ≤ x3 + 1 ∧ x3 + 1 < n) ∧ ((0 ≤ x3 + 2 ∧ x3 + 2 < n) ∧ ((0 ≤ x3 + 3 ∧ x3 + 3 < n) ∧ ((0 ≤ x3 + 4 ∧ x3 + 4 < n) ∧ (w_m_run M80 (sx (x3 + 1)) (sx (x3 + 2)) (sx (x3 + 3)) (sx (x3 + 4)) (fun a85 M86 => a79 = a85 ∧ (X18 (x3 + 6) M86)))))))))))) ∧ (bAnd (sx x3) 31 = 8 → (0 ≤ x3 + 1 ∧ x3 + 1 < n) ∧ ((0 ≤ x3 + 2 ∧ x3 + 2 < n) ∧ ((0 ≤ x3 + 3 ∧ x3 + 3 < n) ∧ ((0 ≤ x3 + 4 ∧ x3 + 4 < n) ∧ (w_S_choices M (sx (x3 + 1)) (sx (x3 + 2)) (sx (x3 + 3)) (sx (x3 + 4)) (fun a92 M93 => (0 ≤ x3 + 1 ∧ x3 + 1 < n) ∧ ((0 ≤ x3 + 2 ∧ x3 + 2 < n) ∧ ((0 ≤ x3 + 3 ∧ x3 + 3 < n) ∧ ((0 ≤ x3 + 4 ∧ x3 + 4 < n) ∧ (w_m_choices M93 (sx (x3 + 1)) (sx (x3 + 2)) (sx (x3 + 3)) (sx (x3 + 4)) (fun a98 M99 => a92 = a98 ∧ (X18 (x3 + 6) M99)))))))))))) ∧ (bAnd (sx x3) 31 = 9 → (0 ≤ x3 + 1 ∧ x3 + 1 < n) ∧ ((0 ≤ x3 + 2 ∧ x3 + 2 < n) ∧ ((0 ≤ x3 + 3 ∧ x3 + 3 < n) ∧ ((0 ≤ x3 + 4 ∧ x3 + 4 < n) ∧ (w_S_odds M (sx (x3 + 1)) (sx (x3 + 2)) (sx (x3 + 3)) (sx (x3 + 4)) (fun a105 M106 => (0 ≤ x3 + 1 ∧ x3 + 1 < n) ∧ ((0 ≤ x3 + 2 ∧ x3 + 2 < n) ∧ ((0 ≤ x3 + 3 ∧ x3 + 3 < n) ∧ ((0 ≤ x3 + 4 ∧ x3 + 4 < n) ∧ (w_m_odds M106 (sx (x3 + 1)) (sx (x3 + 2)) (sx (x3 + 3)) (sx (x3 + 4)) (fun a111 M112 => a105 = a111 ∧ (X18 (x3 + 6) M112)))))))))))) ∧ (bAnd (sx x3) 31 = 10 → (0 ≤ x3 + 1 ∧ x3 + 1 < n) ∧ ((0 ≤ x3 + 2 ∧ x3 + 2 < n) ∧ ((0 ≤ x3 + 3 ∧ x3 + 3 < n) ∧ ((0 ≤ x3 + 4 ∧ x3 + 4 < n) ∧ (w_S_step M (sx (x3 + 1)) (sx (x3 + 2)) (sx (x3 + 3)) (sx (x3 + 4)) (fun a118 M119 => (0 ≤ x3 + 1 ∧ x3 + 1 < n) ∧ ((0 ≤ x3 + 2 ∧ x3 + 2 < n) ∧ ((0 ≤ x3 + 3 ∧ x3 + 3 < n) ∧ ((0 ≤ x3 + 4 ∧ x3 + 4 < n) ∧ (w_m_step M119 (sx (x3 + 1)) (sx (x3 + 2)) (sx (x3 + 3)) (sx (x3 + 4)) (fun a124 M125 => a118 = a124 ∧ (X18 (x3 + 6) M125)))))))))))) ∧ (bAnd (sx x3) 31 = 11 → (0 ≤ x3 + 1 ∧ x3 + 1 < n) ∧ ((0 ≤ x3 + 2 ∧ x3 + 2 < n) ∧ ((0 ≤ x3 + 3 ∧ x3 + 3 < n) ∧ ((0 ≤ x3 + 4 ∧ x3 + 4 < n) ∧ ((0 ≤ x3 + 5 ∧ x3 + 5 < n) ∧ (w_S_word M (sx (x3 + 1)) (sx (x3 + 2)) (sx (x3 + 3)) (sx (x3 + 4)) (sx (x3 + 5)) (fun a132 M133 => (0 ≤ x3 + 1 ∧ x3 + 1 < n) ∧ ((0 ≤ x3 + 2 ∧ x3 + 2 < n) ∧ ((0 ≤ x3 + 3 ∧ x3 + 3 < n) ∧ ((0 ≤ x3 + 4 ∧ x3 + 4 < n) ∧ ((0 ≤ x3 + 5 ∧ x3 + 5 < n) ∧ (w_m_word M133 (sx (x3 + 1)) (sx (x3 + 2)) (sx (x3 + 3)) (sx (x3 + 4)) (sx (x3 + 5)) (fun a139 M140 => a132 = a139 ∧ (X18 (x3 + 6) M140)))))))))))))) ∧ (bAnd (sx x3) 31 = 12 → (0 ≤ x3 + 1 ∧ x3 + 1 < n) ∧ ((0 ≤ x3 + 2 ∧ x3 + 2 < n) ∧ ((-2147483648 ≤ sx (x3 + 2) ∧ sx (x3 + 2) ≤ 2147483647) ∧ ((sx (x3 + 2) = 0 → w_law_law_j0 n sx Q X18 x3 (sx (x3 + 1)) 0 M) ∧ (¬ (sx (x3 + 2) = 0) → w_law_law_j0 n sx Q X18 x3 (sx (x3 + 1)) 1 M))))) ∧ (bAnd (sx x3) 31 = 13 → (0 ≤ x3 + 1 ∧ x3 + 1 < n) ∧ (w_S_bars M (sx (x3 + 1)) (fun a148 M149 => (0 ≤ x3 + 1 ∧ x3 + 1 < n) ∧ (w_m_bars M149 (sx (x3 + 1)) (fun a151 M152 => a148 = a151 ∧ (X18 (x3 + 6) M152)))))) ∧ (bAnd (sx x3) 31 = 14 → (0 ≤ x3 + 1 ∧ x3 + 1 < n) ∧ (w_S_toStrike M (sx (x3 + 1)) (fun a155 M156 => (0 ≤ x3 + 1 ∧ x3 + 1 < n) ∧ (w_m_toStrike M156 (sx (x3 + 1)) (fun a158 M159 => a155 = a158 ∧ (X18 (x3 + 6) M159)))))) ∧ (bAnd (sx x3) 31 = 15 → (0 ≤ x3 + 1 ∧ x3 + 1 < n) ∧ ((0 ≤ x3 + 2 ∧ x3 + 2 < n) ∧ ((0 ≤ x3 + 3 ∧ x3 + 3 < n) ∧ (w_S_house M (sx (x3 + 1)) (sx (x3 + 2)) (sx (x3 + 3)) (fun a164 M165 => (0 ≤ x3 + 1 ∧ x3 + 1 < n) ∧ ((0 ≤ x3 + 2 ∧ x3 + 2 < n) ∧ ((0 ≤ x3 + 3 ∧ x3 + 3 < n) ∧ (w_m_house M165 (sx (x3 + 1)) (sx (x3 + 2)) (sx (x3 + 3)) (fun a169 M170 => a164 = a169 ∧ (X18 (x3 + 6) M170)))))))))) ∧ (bAnd (sx x3) 31 = 16 → (0 ≤ x3 + 1 ∧ x3 + 1 < n) ∧ ((0 ≤ x3 + 2 ∧ x3 + 2 < n) ∧ ((0 ≤ x3 + 3 ∧ x3 + 3 < n) ∧ (w_S_sink M (sx (x3 + 1)) (sx (x3 + 2)) (sx (x3 + 3)) (fun a175 M176 => (0 ≤ x3 + 1 ∧ x3 + 1 < n) ∧ ((0 ≤ x3 + 2 ∧ x3 + 2 < n) ∧ ((0 ≤ x3 + 3 ∧ x3 + 3 < n) ∧ (w_m_sink M176 (sx (x3 + 1)) (sx (x3 + 2)) (sx (x3 + 3)) (fun a180 M181 => a175 = a180 ∧ (X18 (x3 + 6) M181)))))))))) ∧ (bAnd (sx x3) 31 = 17 → (0 ≤ x3 + 1 ∧ x3 + 1 < n) ∧ ((0 ≤ x3 + 2 ∧ x3 + 2 < n) ∧ ((0 ≤ x3 + 3 ∧ x3 + 3 < n) ∧ (w_S_sunk M (sx (x3 + 1)) (sx (x3 + 2)) (sx (x3 + 3)) (fun a186 M187 => (0 ≤ x3 + 1 ∧ x3 + 1 < n) ∧ ((0 ≤ x3 + 2 ∧ x3 + 2 < n) ∧ ((0 ≤ x3 + 3 ∧ x3 + 3 < n) ∧ (w_m_sunk M187 (sx (x3 + 1)) (sx (x3 + 2)) (sx (x3 + 3)) (fun a191 M192 => a186 = a191 ∧ (X18 (x3 + 6) M192)))))))))) ∧ (bAnd (sx x3) 31 = 18 → (0 ≤ x3 + 1 ∧ x3 + 1 < n) ∧ ((0 ≤ x3 + 2 ∧ x3 + 2 < n) ∧ ((0 ≤ x3 + 3 ∧ x3 + 3 < n) ∧ (w_S_led M (sx (x3 + 1)) (sx (x3 + 2)) (sx (x3 + 3)) (fun a197 M198 => (0 ≤ x3 + 1 ∧ x3 + 1 < n) ∧ ((0 ≤ x3 + 2 ∧ x3 + 2 < n) ∧ ((0 ≤ x3 + 3 ∧ x3 + 3 < n) ∧ (w_m_led M198 (sx (x3 + 1)) (sx (x3 + 2)) (sx (x3 + 3)) (fun a202 M203 => a197 = a202 ∧ (X18 (x3 + 6) M203)))))))))) ∧ (bAnd (sx x3) 31 = 19 → (0 ≤ x3 + 1 ∧ x3 + 1 < n) ∧ ((0 ≤ x3 + 2 ∧ x3 + 2 < n) ∧ ((0 ≤ x3 + 3 ∧ x3 + 3 < n) ∧ (w_S_lean M (sx (x3 + 1)) (sx (x3 + 2)) (sx (x3 + 3)) (fun a208 M209 => (0 ≤ x3 + 1 ∧ x3 + 1 < n) ∧ ((0 ≤ x3 + 2 ∧ x3 + 2 < n) ∧ ((0 ≤ x3 + 3 ∧ x3 + 3 < n) ∧ (w_m_lean M209 (sx (x3 + 1)) (sx (x3 + 2)) (sx (x3 + 3)) (fun a213 M214 => a208 = a213 ∧ (X18 (x3 + 6) M214)))))))))) ∧ (bAnd (sx x3) 31 = 20 → (0 ≤ x3 + 1 ∧ x3 + 1 < n) ∧ ((0 ≤ x3 + 2 ∧ x3 + 2 < n) ∧ ((0 ≤ x3 + 3 ∧ x3 + 3 < n) ∧ ((0 ≤ x3 + 4 ∧ x3 + 4 < n) ∧ (w_S_tank M (sx (x3 + 1)) (sx (x3 + 2)) (sx (x3 + 3)) (sx (x3 + 4)) (fun a220 M221 => (0 ≤ x3 + 1 ∧ x3 + 1 < n) ∧ ((0 ≤ x3 + 2 ∧ x3 + 2 < n) ∧ ((0 ≤ x3 + 3 ∧ x3 + 3 < n) ∧ ((0 ≤ x3 + 4 ∧ x3 + 4 < n) ∧ (w_m_tank M221 (sx (x3 + 1)) (sx (x3 + 2)) (sx (x3 + 3)) (sx (x3 + 4)) (fun a226 M227 => a220 = a226 ∧ (X18 (x3 + 6) M227)))))))))))) ∧ (bAnd (sx x3) 31 = 21 → (0 ≤ x3 + 1 ∧ x3 + 1 < n) ∧ ((0 ≤ x3 + 2 ∧ x3 + 2 < n) ∧ (w_S_floats M (sx (x3 + 1)) (sx (x3 + 2)) (fun a231 M232 => (0 ≤ x3 + 1 ∧ x3 + 1 < n) ∧ ((0 ≤ x3 + 2 ∧ x3 + 2 < n) ∧ (w_m_floats M232 (sx (x3 + 1)) (sx (x3 + 2)) (fun a235 M236 => a231 = a235 ∧ (X18 (x3 + 6) M236)))))))) ∧ (bAnd (sx x3) 31 = 22 → (0 ≤ x3 + 1 ∧ x3 + 1 < n) ∧ ((0 ≤ x3 + 2 ∧ x3 + 2 < n) ∧ ((0 ≤ x3 + 3 ∧ x3 + 3 < n) ∧ ((0 ≤ x3 + 4 ∧ x3 + 4 < n) ∧ ((0 ≤ x3 + 5 ∧ x3 + 5 < n) ∧ (w_S_margin M (sx (x3 + 1)) (sx (x3 + 2)) (sx (x3 + 3)) (sx (x3 + 4)) (sx (x3 + 5)) (fun a243 M244 => (0 ≤ x3 + 1 ∧ x3 + 1 < n) ∧ ((0 ≤ x3 + 2 ∧ x3 + 2 < n) ∧ ((0 ≤ x3 + 3 ∧ x3 + 3 < n) ∧ ((0 ≤ x3 + 4 ∧ x3 + 4 < n) ∧ ((0 ≤ x3 + 5 ∧ x3 + 5 < n) ∧ (w_m_margin M244 (sx (x3 + 1)) (sx (x3 + 2)) (sx (x3 + 3)) (sx (x3 + 4)) (sx (x3 + 5)) (fun a250 M251 => a243 = a250 ∧ (X18 (x3 + 6) M251)))))))))))))) ∧ (bAnd (sx x3) 31 = 23 → (0 ≤ x3 + 1 ∧ x3 + 1 < n) ∧ ((0 ≤ x3 + 2 ∧ x3 + 2 < n) ∧ (w_S_least M (sx (x3 + 1)) (sx (x3 + 2)) (fun a255 M256 => (0 ≤ x3 + 1 ∧ x3 + 1 < n) ∧ ((0 ≤ x3 + 2 ∧ x3 + 2 < n) ∧ (w_m_least M256 (sx (x3 + 1)) (sx (x3 + 2)) (fun a259 M260 => a255 = a259 ∧ (X18 (x3 + 6) M260)))))))) ∧ (bAnd (sx x3) 31 = 24 → (0 ≤ x3 + 1 ∧ x3 + 1 < n) ∧ ((0 ≤ x3 + 2 ∧ x3 + 2 < n) ∧ ((0 ≤ x3 + 3 ∧ x3 + 3 < n) ∧ ((0 ≤ x3 + 4 ∧ x3 + 4 < n) ∧ (w_S_work M (sx (x3 + 1)) (sx (x3 + 2)) (sx (x3 + 3)) (sx (x3 + 4)) (fun a266 M267 => (0 ≤ x3 + 1 ∧ x3 + 1 < n) ∧ ((0 ≤ x3 + 2 ∧ x3 + 2 < n) ∧ ((0 ≤ x3 + 3 ∧ x3 + 3 < n) ∧ ((0 ≤ x3 + 4 ∧ x3 + 4 < n) ∧ (w_m_work M267 (sx (x3 + 1)) (sx (x3 + 2)) (sx (x3 + 3)) (sx (x3 + 4)) (fun a272 M273 => a266 = a272 ∧ (X18 (x3 + 6) M273)))))))))))) ∧ (bAnd (sx x3) 31 = 25 → (0 ≤ x3 + 1 ∧ x3 + 1 < n) ∧ (w_S_stands M (sx (x3 + 1)) (fun a276 M277 => (0 ≤ x3 + 1 ∧ x3 + 1 < n) ∧ (w_m_stands M277 (sx (x3 + 1)) (fun a279 M280 => a276 = a279 ∧ (X18 (x3 + 6) M280)))))) ∧ (bAnd (sx x3) 31 = 26 → (0 ≤ x3 + 1 ∧ x3 + 1 < n) ∧ (w_S_plan M (sx (x3 + 1)) (fun a283 M284 => (0 ≤ x3 + 1 ∧ x3 + 1 < n) ∧ (w_m_plan M284 (sx (x3 + 1)) (fun a286 M287 => a283 = a286 ∧ (X18 (x3 + 6) M287)))))) ∧ (bAnd (sx x3) 31 = 27 → w_S_loss M (fun a289 M290 => w_m_loss M290 (fun a291 M292 => a289 = a291 ∧ (X18 (x3 + 6) M292)))) ∧ (bAnd (sx x3) 31 = 28 → (0 ≤ x3 + 1 ∧ x3 + 1 < n) ∧ ((0 ≤ x3 + 2 ∧ x3 + 2 < n) ∧ ((-2147483648 ≤ sx (x3 + 2) ∧ sx (x3 + 2) ≤ 2147483647) ∧ ((0 ≤ x3 + 3 ∧ x3 + 3 < n) ∧ ((-2147483648 ≤ sx (x3 + 3) ∧ sx (x3 + 3) ≤ 2147483647) ∧ (w_S_feed M (sx (x3 + 1)) (lOr (lShl (sx (x3 + 2)) 32) (lAnd (sx (x3 + 3)) 4294967295)) (fun a299 M300 => (0 ≤ x3 + 1 ∧ x3 + 1 < n) ∧ ((0 ≤ x3 + 2 ∧ x3 + 2 < n) ∧ ((-2147483648 ≤ sx (x3 + 2) ∧ sx (x3 + 2) ≤ 2147483647) ∧ ((0 ≤ x3 + 3 ∧ x3 + 3 < n) ∧ ((-2147483648 ≤ sx (x3 + 3) ∧ sx (x3 + 3) ≤ 2147483647) ∧ (w_m_feed M300 (sx (x3 + 1)) (lOr (lShl (sx (x3 + 2)) 32) (lAnd (sx (x3 + 3)) 4294967295)) (fun a306 M307 => a299 = a306 ∧ (X18 (x3 + 6) M307)))))))))))))) ∧ (bAnd (sx x3) 31 = 29 → w_S_read M (fun a309 M310 => w_m_read M310 (fun a311 M312 => a309 = a311 ∧ (X18 (x3 + 6) M312)))) ∧ (bAnd (sx x3) 31 = 30 → w_S_fault M (fun a314 => w_m_fault M (fun a315 => a314 = a315 ∧ (X18 (x3 + 6) M)))) ∧ (bAnd (sx x3) 31 = 31 → (0 ≤ x3 + 1 ∧ x3 + 1 < n) ∧ (w_S_rule M (sx (x3 + 1)) (fun a318 => (0 ≤ x3 + 1 ∧ x3 + 1 < n) ∧ (w_m_rule M (sx (x3 + 1)) (fun a320 => a318 = a320 ∧ (X18 (x3 + 6) M)))))))))))
set_option maxRecDepth 100000 in
set_option maxHeartbeats 4000000 in
theorem s_law_law_B0 {n : Nat} {sx : Int → Int} {Q : Int → Mem → Prop} {X18 : Int → Mem → Prop} {x3 : Int} {M : Mem} (hC : rC p R s m args meth c cells slots D aC ad 4 cL_law RL 11 266 (some .boolean)) (hX : scr ad n sx s) (hQ : ∀ (pc : Nat) (L : List (Nat × RV)) (z : Int) (M : Mem), decode cL_law pc = .ok (.ireturn, 1) → 0 ≤ z → z ≤ 1 → Q z M → rG p l e R s m args below meth c cells slots Qs D aC ad 4 pc L [vI z] M) (hX18 : ∀ (x3 : Int) (M : Mem), X18 x3 M → rG p l e R s m args below meth c cells slots Qs D aC ad 4 18 [(0, vR 250), (1, vR 0), (2, vR 12), (3, vI x3)] [] M) (hw : w_law_law_B0 n sx Q X18 x3 M) : rG p l e R s m args below meth c cells slots Qs D aC ad 4 18 [(0, vR 250), (1, vR 0), (2, vR 12), (3, vI x3)] [] M := by
  unfold w_law_law_B0 at hw
  refine r_iload_n hC dL_law_18 rfl rfl ?_
  refine r_aload_n hC dL_law_19 rfl rfl ?_
  refine r_slen hC hX dL_law_20 ?_
  refine r_bipush hC dL_law_21 (by decide) ?_
  refine r_isub hC dL_law_23 ?_
  obtain ⟨o1, hw⟩ := hw
  obtain ⟨o2, hw⟩ := hw
  obtain ⟨hwt, hwf⟩ := hw
  refine r_icmp_gt hC 1449 dL_law_24 (by decide) o1.1 o1.2 o2.1 o2.2 (fun c3 => ?_) (fun c3 => ?_)
  · have hw := hwt c3
    refine r_iconst hC dL_law_1449 ?_
    exact hQ _ _ _ _ dL_law_1450 (by decide) (by decide) hw
  · have hw := hwf c3
    refine r_aload_n hC dL_law_27 rfl rfl ?_
    refine r_iload_n hC dL_law_28 rfl rfl ?_
    obtain ⟨o5, hw⟩ := hw
    refine r_sld hC hX o5.1 o5.2 dL_law_29 ?_
    refine r_bipush hC dL_law_30 (by decide) ?_
    refine r_iand hC dL_law_32 ?_
    obtain ⟨o6, hw⟩ := hw
    obtain ⟨hd, h0, h1, h2, h3, h4, h5, h6, h7, h8, h9, h10, h11, h12, h13, h14, h15, h16, h17, h18, h19, h20, h21, h22, h23, h24, h25, h26, h27, h28, h29, h30, h31⟩ := hw
    refine r_tsw hC dL_law_33 o6.1 o6.2 1443 (by decide) (fun c7 => ?_) (fun n hn hn2 => ?_)
    · have hw := hd c7
      refine r_iinc hC dL_law_1443 rfl (by decide) ?_
      refine r_goto hC 18 dL_law_1446 (by decide) ?_
      exact r_subk (hX18 _ _ hw) ⟨rfl, rfl, rfl, rfl, trivial⟩
    · have hlt : n < 32 := by omega
      match n, hlt with
      | 0, _ =>
        refine ⟨_, 176, rfl, by decide, ?_⟩
        have hw := h0 (by omega)
        refine r_aload_n hC dL_law_176 rfl rfl ?_
        refine r_aload_n hC dL_law_177 rfl rfl ?_
        refine r_iload_n hC dL_law_178 rfl rfl ?_
        refine r_iconst hC dL_law_179 ?_
        refine r_iadd hC dL_law_180 ?_
        obtain ⟨o8, hw⟩ := hw
        refine r_sld hC hX o8.1 o8.2 dL_law_181 ?_
        refine r_aload_n hC dL_law_182 rfl rfl ?_
        refine r_iload_n hC dL_law_183 rfl rfl ?_
        refine r_iconst hC dL_law_184 ?_
        refine r_iadd hC dL_law_185 ?_
        obtain ⟨o9, hw⟩ := hw
        refine r_sld hC hX o9.1 o9.2 dL_law_186 ?_
        refine r_aload_n hC dL_law_187 rfl rfl ?_
        refine r_iload_n hC dL_law_188 rfl rfl ?_
        refine r_iconst hC dL_law_189 ?_
        refine r_iadd hC dL_law_190 ?_
        obtain ⟨o10, hw⟩ := hw
        refine r_sld hC hX o10.1 o10.2 dL_law_191 ?_
        refine r_callV hC (d_S_column hw) rfl kC11_column kmL_13 kI11_column kS11_column kN11 dd_11_column ⟨Nat.le_of_ble_eq_true rfl, Nat.le_of_ble_eq_true rfl⟩ rfl (Nat.le_of_ble_eq_true rfl) dL_law_192 (fun r M' hp => ?_)
        obtain ⟨a11, rfl, hw⟩ := hp
        try dsimp only at hw
        refine r_aload_n hC dL_law_195 rfl rfl ?_
        refine r_aload_n hC dL_law_196 rfl rfl ?_
        refine r_iload_n hC dL_law_197 rfl rfl ?_
        refine r_iconst hC dL_law_198 ?_
        refine r_iadd hC dL_law_199 ?_
        obtain ⟨o13, hw⟩ := hw
        refine r_sld hC hX o13.1 o13.2 dL_law_200 ?_
        refine r_aload_n hC dL_law_201 rfl rfl ?_
        refine r_iload_n hC dL_law_202 rfl rfl ?_
        refine r_iconst hC dL_law_203 ?_
        refine r_iadd hC dL_law_204 ?_
        obtain ⟨o14, hw⟩ := hw
        refine r_sld hC hX o14.1 o14.2 dL_law_205 ?_
        refine r_aload_n hC dL_law_206 rfl rfl ?_
        refine r_iload_n hC dL_law_207 rfl rfl ?_
        refine r_iconst hC dL_law_208 ?_
        refine r_iadd hC dL_law_209 ?_
        obtain ⟨o15, hw⟩ := hw
        refine r_sld hC hX o15.1 o15.2 dL_law_210 ?_
        refine r_callV hC (d_m_column hw) rfl kC12_column kmL_17 kI12_column kS12_column kN12 dd_12_column ⟨Nat.le_of_ble_eq_true rfl, Nat.le_of_ble_eq_true rfl⟩ rfl (Nat.le_of_ble_eq_true rfl) dL_law_211 (fun r M' hp => ?_)
        obtain ⟨a16, rfl, hw⟩ := hp
        try dsimp only at hw
        obtain ⟨o18, hw⟩ := hw
        refine r_icmp_same hC 1443 dL_law_214 (by decide) o18 ?_
        refine r_iinc hC dL_law_1443 rfl (by decide) ?_
        refine r_goto hC 18 dL_law_1446 (by decide) ?_
        exact r_subk (hX18 _ _ hw) ⟨rfl, rfl, rfl, rfl, trivial⟩
      | 1, _ =>
        refine ⟨_, 219, rfl, by decide, ?_⟩
        have hw := h1 (by omega)
        refine r_aload_n hC dL_law_219 rfl rfl ?_
        refine r_aload_n hC dL_law_220 rfl rfl ?_
        refine r_iload_n hC dL_law_221 rfl rfl ?_
        refine r_iconst hC dL_law_222 ?_
        refine r_iadd hC dL_law_223 ?_
        obtain ⟨o19, hw⟩ := hw
        refine r_sld hC hX o19.1 o19.2 dL_law_224 ?_
        refine r_aload_n hC dL_law_225 rfl rfl ?_
        refine r_iload_n hC dL_law_226 rfl rfl ?_
        refine r_iconst hC dL_law_227 ?_
        refine r_iadd hC dL_law_228 ?_
        obtain ⟨o20, hw⟩ := hw
        refine r_sld hC hX o20.1 o20.2 dL_law_229 ?_
        refine r_aload_n hC dL_law_230 rfl rfl ?_
        refine r_iload_n hC dL_law_231 rfl rfl ?_
        refine r_iconst hC dL_law_232 ?_
        refine r_iadd hC dL_law_233 ?_
        obtain ⟨o21, hw⟩ := hw
        refine r_sld hC hX o21.1 o21.2 dL_law_234 ?_
        refine r_aload_n hC dL_law_235 rfl rfl ?_
        refine r_iload_n hC dL_law_236 rfl rfl ?_
        refine r_iconst hC dL_law_237 ?_
        refine r_iadd hC dL_law_238 ?_
        obtain ⟨o22, hw⟩ := hw
        refine r_sld hC hX o22.1 o22.2 dL_law_239 ?_
        refine r_callV hC (d_S_layer hw) rfl kC11_layer kmL_18 kI11_layer kS11_layer kN11 dd_11_layer ⟨Nat.le_of_ble_eq_true rfl, Nat.le_of_ble_eq_true rfl⟩ rfl (Nat.le_of_ble_eq_true rfl) dL_law_240 (fun r M' hp => ?_)
        obtain ⟨a23, rfl, hw⟩ := hp
        try dsimp only at hw
        refine r_aload_n hC dL_law_243 rfl rfl ?_
        refine r_aload_n hC dL_law_244 rfl rfl ?_
        refine r_iload_n hC dL_law_245 rfl rfl ?_
        refine r_iconst hC dL_law_246 ?_
        refine r_iadd hC dL_law_247 ?_
        obtain ⟨o25, hw⟩ := hw
        refine r_sld hC hX o25.1 o25.2 dL_law_248 ?_
        refine r_aload_n hC dL_law_249 rfl rfl ?_
        refine r_iload_n hC dL_law_250 rfl rfl ?_
        refine r_iconst hC dL_law_251 ?_
        refine r_iadd hC dL_law_252 ?_
        obtain ⟨o26, hw⟩ := hw
        refine r_sld hC hX o26.1 o26.2 dL_law_253 ?_
        refine r_aload_n hC dL_law_254 rfl rfl ?_
        refine r_iload_n hC dL_law_255 rfl rfl ?_
        refine r_iconst hC dL_law_256 ?_
        refine r_iadd hC dL_law_257 ?_
        obtain ⟨o27, hw⟩ := hw
        refine r_sld hC hX o27.1 o27.2 dL_law_258 ?_
        refine r_aload_n hC dL_law_259 rfl rfl ?_
        refine r_iload_n hC dL_law_260 rfl rfl ?_
        refine r_iconst hC dL_law_261 ?_
        refine r_iadd hC dL_law_262 ?_
        obtain ⟨o28, hw⟩ := hw
        refine r_sld hC hX o28.1 o28.2 dL_law_263 ?_
        refine r_callV hC (d_m_layer hw) rfl kC12_layer kmL_22 kI12_layer kS12_layer kN12 dd_12_layer ⟨Nat.le_of_ble_eq_true rfl, Nat.le_of_ble_eq_true rfl⟩ rfl (Nat.le_of_ble_eq_true rfl) dL_law_264 (fun r M' hp => ?_)
        obtain ⟨a29, rfl, hw⟩ := hp
        try dsimp only at hw
        obtain ⟨o31, hw⟩ := hw
        refine r_icmp_same hC 1443 dL_law_267 (by decide) o31 ?_
        refine r_iinc hC dL_law_1443 rfl (by decide) ?_
        refine r_goto hC 18 dL_law_1446 (by decide) ?_
        exact r_subk (hX18 _ _ hw) ⟨rfl, rfl, rfl, rfl, trivial⟩
      | 2, _ =>
        refine ⟨_, 272, rfl, by decide, ?_⟩
        have hw := h2 (by omega)
        refine r_aload_n hC dL_law_272 rfl rfl ?_
        refine r_aload_n hC dL_law_273 rfl rfl ?_
        refine r_iload_n hC dL_law_274 rfl rfl ?_
        refine r_iconst hC dL_law_275 ?_
        refine r_iadd hC dL_law_276 ?_
        obtain ⟨o32, hw⟩ := hw
        refine r_sld hC hX o32.1 o32.2 dL_law_277 ?_
        refine r_aload_n hC dL_law_278 rfl rfl ?_
        refine r_iload_n hC dL_law_279 rfl rfl ?_
        refine r_iconst hC dL_law_280 ?_
        refine r_iadd hC dL_law_281 ?_
        obtain ⟨o33, hw⟩ := hw
        refine r_sld hC hX o33.1 o33.2 dL_law_282 ?_
        refine r_aload_n hC dL_law_283 rfl rfl ?_
        refine r_iload_n hC dL_law_284 rfl rfl ?_
        refine r_iconst hC dL_law_285 ?_
        refine r_iadd hC dL_law_286 ?_
        obtain ⟨o34, hw⟩ := hw
        refine r_sld hC hX o34.1 o34.2 dL_law_287 ?_
        refine r_aload_n hC dL_law_288 rfl rfl ?_
        refine r_iload_n hC dL_law_289 rfl rfl ?_
        refine r_iconst hC dL_law_290 ?_
        refine r_iadd hC dL_law_291 ?_
        obtain ⟨o35, hw⟩ := hw
        refine r_sld hC hX o35.1 o35.2 dL_law_292 ?_
        refine r_callV hC (d_S_loose hw) rfl kC11_loose kmL_23 kI11_loose kS11_loose kN11 dd_11_loose ⟨Nat.le_of_ble_eq_true rfl, Nat.le_of_ble_eq_true rfl⟩ rfl (Nat.le_of_ble_eq_true rfl) dL_law_293 (fun r M' hp => ?_)
        obtain ⟨a36, rfl, hw⟩ := hp
        try dsimp only at hw
        refine r_aload_n hC dL_law_296 rfl rfl ?_
        refine r_aload_n hC dL_law_297 rfl rfl ?_
        refine r_iload_n hC dL_law_298 rfl rfl ?_
        refine r_iconst hC dL_law_299 ?_
        refine r_iadd hC dL_law_300 ?_
        obtain ⟨o38, hw⟩ := hw
        refine r_sld hC hX o38.1 o38.2 dL_law_301 ?_
        refine r_aload_n hC dL_law_302 rfl rfl ?_
        refine r_iload_n hC dL_law_303 rfl rfl ?_
        refine r_iconst hC dL_law_304 ?_
        refine r_iadd hC dL_law_305 ?_
        obtain ⟨o39, hw⟩ := hw
        refine r_sld hC hX o39.1 o39.2 dL_law_306 ?_
        refine r_aload_n hC dL_law_307 rfl rfl ?_
        refine r_iload_n hC dL_law_308 rfl rfl ?_
        refine r_iconst hC dL_law_309 ?_
        refine r_iadd hC dL_law_310 ?_
        obtain ⟨o40, hw⟩ := hw
        refine r_sld hC hX o40.1 o40.2 dL_law_311 ?_
        refine r_aload_n hC dL_law_312 rfl rfl ?_
        refine r_iload_n hC dL_law_313 rfl rfl ?_
        refine r_iconst hC dL_law_314 ?_
        refine r_iadd hC dL_law_315 ?_
        obtain ⟨o41, hw⟩ := hw
        refine r_sld hC hX o41.1 o41.2 dL_law_316 ?_
        refine r_callV hC (d_m_loose hw) rfl kC12_loose kmL_26 kI12_loose kS12_loose kN12 dd_12_loose ⟨Nat.le_of_ble_eq_true rfl, Nat.le_of_ble_eq_true rfl⟩ rfl (Nat.le_of_ble_eq_true rfl) dL_law_317 (fun r M' hp => ?_)
        obtain ⟨a42, rfl, hw⟩ := hp
        try dsimp only at hw
        obtain ⟨o44, hw⟩ := hw
        refine r_icmp_same hC 1443 dL_law_320 (by decide) o44 ?_
        refine r_iinc hC dL_law_1443 rfl (by decide) ?_
        refine r_goto hC 18 dL_law_1446 (by decide) ?_
        exact r_subk (hX18 _ _ hw) ⟨rfl, rfl, rfl, rfl, trivial⟩
      | 3, _ =>
        refine ⟨_, 325, rfl, by decide, ?_⟩
        have hw := h3 (by omega)
        refine r_aload_n hC dL_law_325 rfl rfl ?_
        refine r_aload_n hC dL_law_326 rfl rfl ?_
        refine r_iload_n hC dL_law_327 rfl rfl ?_
        refine r_iconst hC dL_law_328 ?_
        refine r_iadd hC dL_law_329 ?_
        obtain ⟨o45, hw⟩ := hw
        refine r_sld hC hX o45.1 o45.2 dL_law_330 ?_
        refine r_aload_n hC dL_law_331 rfl rfl ?_
        refine r_iload_n hC dL_law_332 rfl rfl ?_
        refine r_iconst hC dL_law_333 ?_
        refine r_iadd hC dL_law_334 ?_
        obtain ⟨o46, hw⟩ := hw
        refine r_sld hC hX o46.1 o46.2 dL_law_335 ?_
        refine r_aload_n hC dL_law_336 rfl rfl ?_
        refine r_iload_n hC dL_law_337 rfl rfl ?_
        refine r_iconst hC dL_law_338 ?_
        refine r_iadd hC dL_law_339 ?_
        obtain ⟨o47, hw⟩ := hw
        refine r_sld hC hX o47.1 o47.2 dL_law_340 ?_
        refine r_callV hC (d_S_about hw) rfl kC11_about kmL_27 kI11_about kS11_about kN11 dd_11_about ⟨Nat.le_of_ble_eq_true rfl, Nat.le_of_ble_eq_true rfl⟩ rfl (Nat.le_of_ble_eq_true rfl) dL_law_341 (fun r M' hp => ?_)
        obtain ⟨rfl, a48, rfl, hw⟩ := hp
        try dsimp only at hw
        refine r_aload_n hC dL_law_344 rfl rfl ?_
        refine r_aload_n hC dL_law_345 rfl rfl ?_
        refine r_iload_n hC dL_law_346 rfl rfl ?_
        refine r_iconst hC dL_law_347 ?_
        refine r_iadd hC dL_law_348 ?_
        obtain ⟨o49, hw⟩ := hw
        refine r_sld hC hX o49.1 o49.2 dL_law_349 ?_
        refine r_aload_n hC dL_law_350 rfl rfl ?_
        refine r_iload_n hC dL_law_351 rfl rfl ?_
        refine r_iconst hC dL_law_352 ?_
        refine r_iadd hC dL_law_353 ?_
        obtain ⟨o50, hw⟩ := hw
        refine r_sld hC hX o50.1 o50.2 dL_law_354 ?_
        refine r_aload_n hC dL_law_355 rfl rfl ?_
        refine r_iload_n hC dL_law_356 rfl rfl ?_
        refine r_iconst hC dL_law_357 ?_
        refine r_iadd hC dL_law_358 ?_
        obtain ⟨o51, hw⟩ := hw
        refine r_sld hC hX o51.1 o51.2 dL_law_359 ?_
        refine r_callV hC (d_m_about hw) rfl kC12_about kmL_30 kI12_about kS12_about kN12 dd_12_about ⟨Nat.le_of_ble_eq_true rfl, Nat.le_of_ble_eq_true rfl⟩ rfl (Nat.le_of_ble_eq_true rfl) dL_law_360 (fun r M' hp => ?_)
        obtain ⟨rfl, a52, rfl, hw⟩ := hp
        try dsimp only at hw
        obtain ⟨o53, hw⟩ := hw
        refine r_icmp_same hC 1443 dL_law_363 (by decide) o53 ?_
        refine r_iinc hC dL_law_1443 rfl (by decide) ?_
        refine r_goto hC 18 dL_law_1446 (by decide) ?_
        exact r_subk (hX18 _ _ hw) ⟨rfl, rfl, rfl, rfl, trivial⟩
      | 4, _ =>
        refine ⟨_, 368, rfl, by decide, ?_⟩
        have hw := h4 (by omega)
        refine r_aload_n hC dL_law_368 rfl rfl ?_
        refine r_aload_n hC dL_law_369 rfl rfl ?_
        refine r_iload_n hC dL_law_370 rfl rfl ?_
        refine r_iconst hC dL_law_371 ?_
        refine r_iadd hC dL_law_372 ?_
        obtain ⟨o54, hw⟩ := hw
        refine r_sld hC hX o54.1 o54.2 dL_law_373 ?_
        refine r_callV hC (d_S_shake hw) rfl kC11_shake kmL_31 kI11_shake kS11_shake kN11 dd_11_shake ⟨Nat.le_of_ble_eq_true rfl, Nat.le_of_ble_eq_true rfl⟩ rfl (Nat.le_of_ble_eq_true rfl) dL_law_374 (fun r M' hp => ?_)
        obtain ⟨a55, rfl, hw⟩ := hp
        try dsimp only at hw
        refine r_aload_n hC dL_law_377 rfl rfl ?_
        refine r_aload_n hC dL_law_378 rfl rfl ?_
        refine r_iload_n hC dL_law_379 rfl rfl ?_
        refine r_iconst hC dL_law_380 ?_
        refine r_iadd hC dL_law_381 ?_
        obtain ⟨o57, hw⟩ := hw
        refine r_sld hC hX o57.1 o57.2 dL_law_382 ?_
        refine r_callV hC (d_m_shake hw) rfl kC12_shake kmL_35 kI12_shake kS12_shake kN12 dd_12_shake ⟨Nat.le_of_ble_eq_true rfl, Nat.le_of_ble_eq_true rfl⟩ rfl (Nat.le_of_ble_eq_true rfl) dL_law_383 (fun r M' hp => ?_)
        obtain ⟨a58, rfl, hw⟩ := hp
        try dsimp only at hw
        obtain ⟨o60, hw⟩ := hw
        refine r_icmp_same hC 1443 dL_law_386 (by decide) o60 ?_
        refine r_iinc hC dL_law_1443 rfl (by decide) ?_
        refine r_goto hC 18 dL_law_1446 (by decide) ?_
        exact r_subk (hX18 _ _ hw) ⟨rfl, rfl, rfl, rfl, trivial⟩
      | 5, _ =>
        refine ⟨_, 391, rfl, by decide, ?_⟩
        have hw := h5 (by omega)
        refine r_aload_n hC dL_law_391 rfl rfl ?_
        refine r_aload_n hC dL_law_392 rfl rfl ?_
        refine r_iload_n hC dL_law_393 rfl rfl ?_
        refine r_iconst hC dL_law_394 ?_
        refine r_iadd hC dL_law_395 ?_
        obtain ⟨o61, hw⟩ := hw
        refine r_sld hC hX o61.1 o61.2 dL_law_396 ?_
        refine r_aload_n hC dL_law_397 rfl rfl ?_
        refine r_iload_n hC dL_law_398 rfl rfl ?_
        refine r_iconst hC dL_law_399 ?_
        refine r_iadd hC dL_law_400 ?_
        obtain ⟨o62, hw⟩ := hw
        refine r_sld hC hX o62.1 o62.2 dL_law_401 ?_
        refine r_callV hC (d_S_beat hw) rfl kC11_beat kmL_36 kI11_beat kS11_beat kN11 dd_11_beat ⟨Nat.le_of_ble_eq_true rfl, Nat.le_of_ble_eq_true rfl⟩ rfl (Nat.le_of_ble_eq_true rfl) dL_law_402 (fun r M' hp => ?_)
        obtain ⟨a63, rfl, hw⟩ := hp
        try dsimp only at hw
        refine r_aload_n hC dL_law_405 rfl rfl ?_
        refine r_aload_n hC dL_law_406 rfl rfl ?_
        refine r_iload_n hC dL_law_407 rfl rfl ?_
        refine r_iconst hC dL_law_408 ?_
        refine r_iadd hC dL_law_409 ?_
        obtain ⟨o65, hw⟩ := hw
        refine r_sld hC hX o65.1 o65.2 dL_law_410 ?_
        refine r_aload_n hC dL_law_411 rfl rfl ?_
        refine r_iload_n hC dL_law_412 rfl rfl ?_
        refine r_iconst hC dL_law_413 ?_
        refine r_iadd hC dL_law_414 ?_
        obtain ⟨o66, hw⟩ := hw
        refine r_sld hC hX o66.1 o66.2 dL_law_415 ?_
        refine r_callV hC (d_m_beat hw) rfl kC12_beat kmL_40 kI12_beat kS12_beat kN12 dd_12_beat ⟨Nat.le_of_ble_eq_true rfl, Nat.le_of_ble_eq_true rfl⟩ rfl (Nat.le_of_ble_eq_true rfl) dL_law_416 (fun r M' hp => ?_)
        obtain ⟨a67, rfl, hw⟩ := hp
        try dsimp only at hw
        obtain ⟨o69, hw⟩ := hw
        refine r_icmp_same hC 1443 dL_law_419 (by decide) o69 ?_
        refine r_iinc hC dL_law_1443 rfl (by decide) ?_
        refine r_goto hC 18 dL_law_1446 (by decide) ?_
        exact r_subk (hX18 _ _ hw) ⟨rfl, rfl, rfl, rfl, trivial⟩
      | 6, _ =>
        refine ⟨_, 424, rfl, by decide, ?_⟩
        have hw := h6 (by omega)
        refine r_aload_n hC dL_law_424 rfl rfl ?_
        refine r_aload_n hC dL_law_425 rfl rfl ?_
        refine r_iload_n hC dL_law_426 rfl rfl ?_
        refine r_iconst hC dL_law_427 ?_
        refine r_iadd hC dL_law_428 ?_
        obtain ⟨o70, hw⟩ := hw
        refine r_sld hC hX o70.1 o70.2 dL_law_429 ?_
        refine r_callV hC (d_S_count hw) rfl kC11_count kmL_41 kI11_count kS11_count kN11 dd_11_count ⟨Nat.le_of_ble_eq_true rfl, Nat.le_of_ble_eq_true rfl⟩ rfl (Nat.le_of_ble_eq_true rfl) dL_law_430 (fun r M' hp => ?_)
        obtain ⟨rfl, a71, rfl, hw⟩ := hp
        try dsimp only at hw
        refine r_aload_n hC dL_law_433 rfl rfl ?_
        refine r_aload_n hC dL_law_434 rfl rfl ?_
        refine r_iload_n hC dL_law_435 rfl rfl ?_
        refine r_iconst hC dL_law_436 ?_
        refine r_iadd hC dL_law_437 ?_
        obtain ⟨o72, hw⟩ := hw
        refine r_sld hC hX o72.1 o72.2 dL_law_438 ?_
        refine r_callV hC (d_m_count hw) rfl kC12_count kmL_44 kI12_count kS12_count kN12 dd_12_count ⟨Nat.le_of_ble_eq_true rfl, Nat.le_of_ble_eq_true rfl⟩ rfl (Nat.le_of_ble_eq_true rfl) dL_law_439 (fun r M' hp => ?_)
        obtain ⟨rfl, a73, rfl, hw⟩ := hp
        try dsimp only at hw
        obtain ⟨o74, hw⟩ := hw
        refine r_icmp_same hC 1443 dL_law_442 (by decide) o74 ?_
        refine r_iinc hC dL_law_1443 rfl (by decide) ?_
        refine r_goto hC 18 dL_law_1446 (by decide) ?_
        exact r_subk (hX18 _ _ hw) ⟨rfl, rfl, rfl, rfl, trivial⟩
      | 7, _ =>
        refine ⟨_, 447, rfl, by decide, ?_⟩
        have hw := h7 (by omega)
        refine r_aload_n hC dL_law_447 rfl rfl ?_
        refine r_aload_n hC dL_law_448 rfl rfl ?_
        refine r_iload_n hC dL_law_449 rfl rfl ?_
        refine r_iconst hC dL_law_450 ?_
        refine r_iadd hC dL_law_451 ?_
        obtain ⟨o75, hw⟩ := hw
        refine r_sld hC hX o75.1 o75.2 dL_law_452 ?_
        refine r_aload_n hC dL_law_453 rfl rfl ?_
        refine r_iload_n hC dL_law_454 rfl rfl ?_
        refine r_iconst hC dL_law_455 ?_
        refine r_iadd hC dL_law_456 ?_
        obtain ⟨o76, hw⟩ := hw
        refine r_sld hC hX o76.1 o76.2 dL_law_457 ?_
        refine r_aload_n hC dL_law_458 rfl rfl ?_
        refine r_iload_n hC dL_law_459 rfl rfl ?_
        refine r_iconst hC dL_law_460 ?_
        refine r_iadd hC dL_law_461 ?_
        obtain ⟨o77, hw⟩ := hw
        refine r_sld hC hX o77.1 o77.2 dL_law_462 ?_
        refine r_aload_n hC dL_law_463 rfl rfl ?_
        refine r_iload_n hC dL_law_464 rfl rfl ?_
        refine r_iconst hC dL_law_465 ?_
        refine r_iadd hC dL_law_466 ?_
        obtain ⟨o78, hw⟩ := hw
        refine r_sld hC hX o78.1 o78.2 dL_law_467 ?_
        refine r_callV hC (d_S_run hw) rfl kC11_run kmL_45 kI11_run kS11_run kN11 dd_11_run ⟨Nat.le_of_ble_eq_true rfl, Nat.le_of_ble_eq_true rfl⟩ rfl (Nat.le_of_ble_eq_true rfl) dL_law_468 (fun r M' hp => ?_)
        obtain ⟨a79, rfl, hw⟩ := hp
        try dsimp only at hw
        refine r_aload_n hC dL_law_471 rfl rfl ?_
        refine r_aload_n hC dL_law_472 rfl rfl ?_
        refine r_iload_n hC dL_law_473 rfl rfl ?_
        refine r_iconst hC dL_law_474 ?_
        refine r_iadd hC dL_law_475 ?_
        obtain ⟨o81, hw⟩ := hw
        refine r_sld hC hX o81.1 o81.2 dL_law_476 ?_
        refine r_aload_n hC dL_law_477 rfl rfl ?_
        refine r_iload_n hC dL_law_478 rfl rfl ?_
        refine r_iconst hC dL_law_479 ?_
        refine r_iadd hC dL_law_480 ?_
        obtain ⟨o82, hw⟩ := hw
        refine r_sld hC hX o82.1 o82.2 dL_law_481 ?_
        refine r_aload_n hC dL_law_482 rfl rfl ?_
        refine r_iload_n hC dL_law_483 rfl rfl ?_
        refine r_iconst hC dL_law_484 ?_
        refine r_iadd hC dL_law_485 ?_
        obtain ⟨o83, hw⟩ := hw
        refine r_sld hC hX o83.1 o83.2 dL_law_486 ?_
        refine r_aload_n hC dL_law_487 rfl rfl ?_
        refine r_iload_n hC dL_law_488 rfl rfl ?_
        refine r_iconst hC dL_law_489 ?_
        refine r_iadd hC dL_law_490 ?_
        obtain ⟨o84, hw⟩ := hw
        refine r_sld hC hX o84.1 o84.2 dL_law_491 ?_
        refine r_callV hC (d_m_run hw) rfl kC12_run kmL_48 kI12_run kS12_run kN12 dd_12_run ⟨Nat.le_of_ble_eq_true rfl, Nat.le_of_ble_eq_true rfl⟩ rfl (Nat.le_of_ble_eq_true rfl) dL_law_492 (fun r M' hp => ?_)
        obtain ⟨a85, rfl, hw⟩ := hp
        try dsimp only at hw
        obtain ⟨o87, hw⟩ := hw
        refine r_icmp_same hC 1443 dL_law_495 (by decide) o87 ?_
        refine r_iinc hC dL_law_1443 rfl (by decide) ?_
        refine r_goto hC 18 dL_law_1446 (by decide) ?_
        exact r_subk (hX18 _ _ hw) ⟨rfl, rfl, rfl, rfl, trivial⟩
      | 8, _ =>
        refine ⟨_, 500, rfl, by decide, ?_⟩
        have hw := h8 (by omega)
        refine r_aload_n hC dL_law_500 rfl rfl ?_
        refine r_aload_n hC dL_law_501 rfl rfl ?_
        refine r_iload_n hC dL_law_502 rfl rfl ?_
        refine r_iconst hC dL_law_503 ?_
        refine r_iadd hC dL_law_504 ?_
        obtain ⟨o88, hw⟩ := hw
        refine r_sld hC hX o88.1 o88.2 dL_law_505 ?_
        refine r_aload_n hC dL_law_506 rfl rfl ?_
        refine r_iload_n hC dL_law_507 rfl rfl ?_
        refine r_iconst hC dL_law_508 ?_
        refine r_iadd hC dL_law_509 ?_
        obtain ⟨o89, hw⟩ := hw
        refine r_sld hC hX o89.1 o89.2 dL_law_510 ?_
        refine r_aload_n hC dL_law_511 rfl rfl ?_
        refine r_iload_n hC dL_law_512 rfl rfl ?_
        refine r_iconst hC dL_law_513 ?_
        refine r_iadd hC dL_law_514 ?_
        obtain ⟨o90, hw⟩ := hw
        refine r_sld hC hX o90.1 o90.2 dL_law_515 ?_
        refine r_aload_n hC dL_law_516 rfl rfl ?_
        refine r_iload_n hC dL_law_517 rfl rfl ?_
        refine r_iconst hC dL_law_518 ?_
        refine r_iadd hC dL_law_519 ?_
        obtain ⟨o91, hw⟩ := hw
        refine r_sld hC hX o91.1 o91.2 dL_law_520 ?_
        refine r_callV hC (d_S_choices hw) rfl kC11_choices kmL_49 kI11_choices kS11_choices kN11 dd_11_choices ⟨Nat.le_of_ble_eq_true rfl, Nat.le_of_ble_eq_true rfl⟩ rfl (Nat.le_of_ble_eq_true rfl) dL_law_521 (fun r M' hp => ?_)
        obtain ⟨a92, rfl, hw⟩ := hp
        try dsimp only at hw
        refine r_aload_n hC dL_law_524 rfl rfl ?_
        refine r_aload_n hC dL_law_525 rfl rfl ?_
        refine r_iload_n hC dL_law_526 rfl rfl ?_
        refine r_iconst hC dL_law_527 ?_
        refine r_iadd hC dL_law_528 ?_
        obtain ⟨o94, hw⟩ := hw
        refine r_sld hC hX o94.1 o94.2 dL_law_529 ?_
        refine r_aload_n hC dL_law_530 rfl rfl ?_
        refine r_iload_n hC dL_law_531 rfl rfl ?_
        refine r_iconst hC dL_law_532 ?_
        refine r_iadd hC dL_law_533 ?_
        obtain ⟨o95, hw⟩ := hw
        refine r_sld hC hX o95.1 o95.2 dL_law_534 ?_
        refine r_aload_n hC dL_law_535 rfl rfl ?_
        refine r_iload_n hC dL_law_536 rfl rfl ?_
        refine r_iconst hC dL_law_537 ?_
        refine r_iadd hC dL_law_538 ?_
        obtain ⟨o96, hw⟩ := hw
        refine r_sld hC hX o96.1 o96.2 dL_law_539 ?_
        refine r_aload_n hC dL_law_540 rfl rfl ?_
        refine r_iload_n hC dL_law_541 rfl rfl ?_
        refine r_iconst hC dL_law_542 ?_
        refine r_iadd hC dL_law_543 ?_
        obtain ⟨o97, hw⟩ := hw
        refine r_sld hC hX o97.1 o97.2 dL_law_544 ?_
        refine r_callV hC (d_m_choices hw) rfl kC12_choices kmL_52 kI12_choices kS12_choices kN12 dd_12_choices ⟨Nat.le_of_ble_eq_true rfl, Nat.le_of_ble_eq_true rfl⟩ rfl (Nat.le_of_ble_eq_true rfl) dL_law_545 (fun r M' hp => ?_)
        obtain ⟨a98, rfl, hw⟩ := hp
        try dsimp only at hw
        obtain ⟨o100, hw⟩ := hw
        refine r_icmp_same hC 1443 dL_law_548 (by decide) o100 ?_
        refine r_iinc hC dL_law_1443 rfl (by decide) ?_
        refine r_goto hC 18 dL_law_1446 (by decide) ?_
        exact r_subk (hX18 _ _ hw) ⟨rfl, rfl, rfl, rfl, trivial⟩
      | 9, _ =>
        refine ⟨_, 553, rfl, by decide, ?_⟩
        have hw := h9 (by omega)
        refine r_aload_n hC dL_law_553 rfl rfl ?_
        refine r_aload_n hC dL_law_554 rfl rfl ?_
        refine r_iload_n hC dL_law_555 rfl rfl ?_
        refine r_iconst hC dL_law_556 ?_
        refine r_iadd hC dL_law_557 ?_
        obtain ⟨o101, hw⟩ := hw
        refine r_sld hC hX o101.1 o101.2 dL_law_558 ?_
        refine r_aload_n hC dL_law_559 rfl rfl ?_
        refine r_iload_n hC dL_law_560 rfl rfl ?_
        refine r_iconst hC dL_law_561 ?_
        refine r_iadd hC dL_law_562 ?_
        obtain ⟨o102, hw⟩ := hw
        refine r_sld hC hX o102.1 o102.2 dL_law_563 ?_
        refine r_aload_n hC dL_law_564 rfl rfl ?_
        refine r_iload_n hC dL_law_565 rfl rfl ?_
        refine r_iconst hC dL_law_566 ?_
        refine r_iadd hC dL_law_567 ?_
        obtain ⟨o103, hw⟩ := hw
        refine r_sld hC hX o103.1 o103.2 dL_law_568 ?_
        refine r_aload_n hC dL_law_569 rfl rfl ?_
        refine r_iload_n hC dL_law_570 rfl rfl ?_
        refine r_iconst hC dL_law_571 ?_
        refine r_iadd hC dL_law_572 ?_
        obtain ⟨o104, hw⟩ := hw
        refine r_sld hC hX o104.1 o104.2 dL_law_573 ?_
        refine r_callV hC (d_S_odds hw) rfl kC11_odds kmL_53 kI11_odds kS11_odds kN11 dd_11_odds ⟨Nat.le_of_ble_eq_true rfl, Nat.le_of_ble_eq_true rfl⟩ rfl (Nat.le_of_ble_eq_true rfl) dL_law_574 (fun r M' hp => ?_)
        obtain ⟨a105, rfl, hw⟩ := hp
        try dsimp only at hw
        refine r_aload_n hC dL_law_577 rfl rfl ?_
        refine r_aload_n hC dL_law_578 rfl rfl ?_
        refine r_iload_n hC dL_law_579 rfl rfl ?_
        refine r_iconst hC dL_law_580 ?_
        refine r_iadd hC dL_law_581 ?_
        obtain ⟨o107, hw⟩ := hw
        refine r_sld hC hX o107.1 o107.2 dL_law_582 ?_
        refine r_aload_n hC dL_law_583 rfl rfl ?_
        refine r_iload_n hC dL_law_584 rfl rfl ?_
        refine r_iconst hC dL_law_585 ?_
        refine r_iadd hC dL_law_586 ?_
        obtain ⟨o108, hw⟩ := hw
        refine r_sld hC hX o108.1 o108.2 dL_law_587 ?_
        refine r_aload_n hC dL_law_588 rfl rfl ?_
        refine r_iload_n hC dL_law_589 rfl rfl ?_
        refine r_iconst hC dL_law_590 ?_
        refine r_iadd hC dL_law_591 ?_
        obtain ⟨o109, hw⟩ := hw
        refine r_sld hC hX o109.1 o109.2 dL_law_592 ?_
        refine r_aload_n hC dL_law_593 rfl rfl ?_
        refine r_iload_n hC dL_law_594 rfl rfl ?_
        refine r_iconst hC dL_law_595 ?_
        refine r_iadd hC dL_law_596 ?_
        obtain ⟨o110, hw⟩ := hw
        refine r_sld hC hX o110.1 o110.2 dL_law_597 ?_
        refine r_callV hC (d_m_odds hw) rfl kC12_odds kmL_57 kI12_odds kS12_odds kN12 dd_12_odds ⟨Nat.le_of_ble_eq_true rfl, Nat.le_of_ble_eq_true rfl⟩ rfl (Nat.le_of_ble_eq_true rfl) dL_law_598 (fun r M' hp => ?_)
        obtain ⟨a111, rfl, hw⟩ := hp
        try dsimp only at hw
        obtain ⟨o113, hw⟩ := hw
        refine r_lcmp_same hC 1443 dL_law_601 dL_law_602 (by decide) o113 ?_
        refine r_iinc hC dL_law_1443 rfl (by decide) ?_
        refine r_goto hC 18 dL_law_1446 (by decide) ?_
        exact r_subk (hX18 _ _ hw) ⟨rfl, rfl, rfl, rfl, trivial⟩
      | 10, _ =>
        refine ⟨_, 607, rfl, by decide, ?_⟩
        have hw := h10 (by omega)
        refine r_aload_n hC dL_law_607 rfl rfl ?_
        refine r_aload_n hC dL_law_608 rfl rfl ?_
        refine r_iload_n hC dL_law_609 rfl rfl ?_
        refine r_iconst hC dL_law_610 ?_
        refine r_iadd hC dL_law_611 ?_
        obtain ⟨o114, hw⟩ := hw
        refine r_sld hC hX o114.1 o114.2 dL_law_612 ?_
        refine r_aload_n hC dL_law_613 rfl rfl ?_
        refine r_iload_n hC dL_law_614 rfl rfl ?_
        refine r_iconst hC dL_law_615 ?_
        refine r_iadd hC dL_law_616 ?_
        obtain ⟨o115, hw⟩ := hw
        refine r_sld hC hX o115.1 o115.2 dL_law_617 ?_
        refine r_aload_n hC dL_law_618 rfl rfl ?_
        refine r_iload_n hC dL_law_619 rfl rfl ?_
        refine r_iconst hC dL_law_620 ?_
        refine r_iadd hC dL_law_621 ?_
        obtain ⟨o116, hw⟩ := hw
        refine r_sld hC hX o116.1 o116.2 dL_law_622 ?_
        refine r_aload_n hC dL_law_623 rfl rfl ?_
        refine r_iload_n hC dL_law_624 rfl rfl ?_
        refine r_iconst hC dL_law_625 ?_
        refine r_iadd hC dL_law_626 ?_
        obtain ⟨o117, hw⟩ := hw
        refine r_sld hC hX o117.1 o117.2 dL_law_627 ?_
        refine r_callV hC (d_S_step hw) rfl kC11_step kmL_58 kI11_step kS11_step kN11 dd_11_step ⟨Nat.le_of_ble_eq_true rfl, Nat.le_of_ble_eq_true rfl⟩ rfl (Nat.le_of_ble_eq_true rfl) dL_law_628 (fun r M' hp => ?_)
        obtain ⟨a118, rfl, hw⟩ := hp
        try dsimp only at hw
        refine r_aload_n hC dL_law_631 rfl rfl ?_
        refine r_aload_n hC dL_law_632 rfl rfl ?_
        refine r_iload_n hC dL_law_633 rfl rfl ?_
        refine r_iconst hC dL_law_634 ?_
        refine r_iadd hC dL_law_635 ?_
        obtain ⟨o120, hw⟩ := hw
        refine r_sld hC hX o120.1 o120.2 dL_law_636 ?_
        refine r_aload_n hC dL_law_637 rfl rfl ?_
        refine r_iload_n hC dL_law_638 rfl rfl ?_
        refine r_iconst hC dL_law_639 ?_
        refine r_iadd hC dL_law_640 ?_
        obtain ⟨o121, hw⟩ := hw
        refine r_sld hC hX o121.1 o121.2 dL_law_641 ?_
        refine r_aload_n hC dL_law_642 rfl rfl ?_
        refine r_iload_n hC dL_law_643 rfl rfl ?_
        refine r_iconst hC dL_law_644 ?_
        refine r_iadd hC dL_law_645 ?_
        obtain ⟨o122, hw⟩ := hw
        refine r_sld hC hX o122.1 o122.2 dL_law_646 ?_
        refine r_aload_n hC dL_law_647 rfl rfl ?_
        refine r_iload_n hC dL_law_648 rfl rfl ?_
        refine r_iconst hC dL_law_649 ?_
        refine r_iadd hC dL_law_650 ?_
        obtain ⟨o123, hw⟩ := hw
        refine r_sld hC hX o123.1 o123.2 dL_law_651 ?_
        refine r_callV hC (d_m_step hw) rfl kC12_step kmL_61 kI12_step kS12_step kN12 dd_12_step ⟨Nat.le_of_ble_eq_true rfl, Nat.le_of_ble_eq_true rfl⟩ rfl (Nat.le_of_ble_eq_true rfl) dL_law_652 (fun r M' hp => ?_)
        obtain ⟨a124, rfl, hw⟩ := hp
        try dsimp only at hw
        obtain ⟨o126, hw⟩ := hw
        refine r_icmp_same hC 1443 dL_law_655 (by decide) o126 ?_
        refine r_iinc hC dL_law_1443 rfl (by decide) ?_
        refine r_goto hC 18 dL_law_1446 (by decide) ?_
        exact r_subk (hX18 _ _ hw) ⟨rfl, rfl, rfl, rfl, trivial⟩
      | 11, _ =>
        refine ⟨_, 660, rfl, by decide, ?_⟩
        have hw := h11 (by omega)
        refine r_aload_n hC dL_law_660 rfl rfl ?_
        refine r_aload_n hC dL_law_661 rfl rfl ?_
        refine r_iload_n hC dL_law_662 rfl rfl ?_
        refine r_iconst hC dL_law_663 ?_
        refine r_iadd hC dL_law_664 ?_
        obtain ⟨o127, hw⟩ := hw
        refine r_sld hC hX o127.1 o127.2 dL_law_665 ?_
        refine r_aload_n hC dL_law_666 rfl rfl ?_
        refine r_iload_n hC dL_law_667 rfl rfl ?_
        refine r_iconst hC dL_law_668 ?_
        refine r_iadd hC dL_law_669 ?_
        obtain ⟨o128, hw⟩ := hw
        refine r_sld hC hX o128.1 o128.2 dL_law_670 ?_
        refine r_aload_n hC dL_law_671 rfl rfl ?_
        refine r_iload_n hC dL_law_672 rfl rfl ?_
        refine r_iconst hC dL_law_673 ?_
        refine r_iadd hC dL_law_674 ?_
        obtain ⟨o129, hw⟩ := hw
        refine r_sld hC hX o129.1 o129.2 dL_law_675 ?_
        refine r_aload_n hC dL_law_676 rfl rfl ?_
        refine r_iload_n hC dL_law_677 rfl rfl ?_
        refine r_iconst hC dL_law_678 ?_
        refine r_iadd hC dL_law_679 ?_
        obtain ⟨o130, hw⟩ := hw
        refine r_sld hC hX o130.1 o130.2 dL_law_680 ?_
        refine r_aload_n hC dL_law_681 rfl rfl ?_
        refine r_iload_n hC dL_law_682 rfl rfl ?_
        refine r_iconst hC dL_law_683 ?_
        refine r_iadd hC dL_law_684 ?_
        obtain ⟨o131, hw⟩ := hw
        refine r_sld hC hX o131.1 o131.2 dL_law_685 ?_
        refine r_callV hC (d_S_word hw) rfl kC11_word kmL_62 kI11_word kS11_word kN11 dd_11_word ⟨Nat.le_of_ble_eq_true rfl, Nat.le_of_ble_eq_true rfl⟩ rfl (Nat.le_of_ble_eq_true rfl) dL_law_686 (fun r M' hp => ?_)
        obtain ⟨a132, rfl, hw⟩ := hp
        try dsimp only at hw
        refine r_aload_n hC dL_law_689 rfl rfl ?_
        refine r_aload_n hC dL_law_690 rfl rfl ?_
        refine r_iload_n hC dL_law_691 rfl rfl ?_
        refine r_iconst hC dL_law_692 ?_
        refine r_iadd hC dL_law_693 ?_
        obtain ⟨o134, hw⟩ := hw
        refine r_sld hC hX o134.1 o134.2 dL_law_694 ?_
        refine r_aload_n hC dL_law_695 rfl rfl ?_
        refine r_iload_n hC dL_law_696 rfl rfl ?_
        refine r_iconst hC dL_law_697 ?_
        refine r_iadd hC dL_law_698 ?_
        obtain ⟨o135, hw⟩ := hw
        refine r_sld hC hX o135.1 o135.2 dL_law_699 ?_
        refine r_aload_n hC dL_law_700 rfl rfl ?_
        refine r_iload_n hC dL_law_701 rfl rfl ?_
        refine r_iconst hC dL_law_702 ?_
        refine r_iadd hC dL_law_703 ?_
        obtain ⟨o136, hw⟩ := hw
        refine r_sld hC hX o136.1 o136.2 dL_law_704 ?_
        refine r_aload_n hC dL_law_705 rfl rfl ?_
        refine r_iload_n hC dL_law_706 rfl rfl ?_
        refine r_iconst hC dL_law_707 ?_
        refine r_iadd hC dL_law_708 ?_
        obtain ⟨o137, hw⟩ := hw
        refine r_sld hC hX o137.1 o137.2 dL_law_709 ?_
        refine r_aload_n hC dL_law_710 rfl rfl ?_
        refine r_iload_n hC dL_law_711 rfl rfl ?_
        refine r_iconst hC dL_law_712 ?_
        refine r_iadd hC dL_law_713 ?_
        obtain ⟨o138, hw⟩ := hw
        refine r_sld hC hX o138.1 o138.2 dL_law_714 ?_
        refine r_callV hC (d_m_word hw) rfl kC12_word kmL_66 kI12_word kS12_word kN12 dd_12_word ⟨Nat.le_of_ble_eq_true rfl, Nat.le_of_ble_eq_true rfl⟩ rfl (Nat.le_of_ble_eq_true rfl) dL_law_715 (fun r M' hp => ?_)
        obtain ⟨a139, rfl, hw⟩ := hp
        try dsimp only at hw
        obtain ⟨o141, hw⟩ := hw
        refine r_icmp_same hC 1443 dL_law_718 (by decide) o141 ?_
        refine r_iinc hC dL_law_1443 rfl (by decide) ?_
        refine r_goto hC 18 dL_law_1446 (by decide) ?_
        exact r_subk (hX18 _ _ hw) ⟨rfl, rfl, rfl, rfl, trivial⟩
      | 12, _ =>
        refine ⟨_, 723, rfl, by decide, ?_⟩
        have hw := h12 (by omega)
        refine r_aload_n hC dL_law_723 rfl rfl ?_
        refine r_aload_n hC dL_law_724 rfl rfl ?_
        refine r_iload_n hC dL_law_725 rfl rfl ?_
        refine r_iconst hC dL_law_726 ?_
        refine r_iadd hC dL_law_727 ?_
        obtain ⟨o142, hw⟩ := hw
        refine r_sld hC hX o142.1 o142.2 dL_law_728 ?_
        refine r_aload_n hC dL_law_729 rfl rfl ?_
        refine r_iload_n hC dL_law_730 rfl rfl ?_
        refine r_iconst hC dL_law_731 ?_
        refine r_iadd hC dL_law_732 ?_
        obtain ⟨o143, hw⟩ := hw
        refine r_sld hC hX o143.1 o143.2 dL_law_733 ?_
        obtain ⟨o144, hw⟩ := hw
        obtain ⟨hwt, hwf⟩ := hw
        refine r_if_eq hC 741 dL_law_734 (by decide) o144.1 o144.2 (fun c146 => ?_) (fun c146 => ?_)
        · have hw := hwt c146
          refine r_iconst hC dL_law_741 ?_
          exact r_subk (s_law_law_j0 hC hX hQ hX18 hw) ⟨rfl, rfl, rfl, rfl, trivial⟩
        · have hw := hwf c146
          refine r_iconst hC dL_law_737 ?_
          refine r_goto hC 742 dL_law_738 (by decide) ?_
          exact r_subk (s_law_law_j0 hC hX hQ hX18 hw) ⟨rfl, rfl, rfl, rfl, trivial⟩
      | 13, _ =>
        refine ⟨_, 772, rfl, by decide, ?_⟩
        have hw := h13 (by omega)
        refine r_aload_n hC dL_law_772 rfl rfl ?_
        refine r_aload_n hC dL_law_773 rfl rfl ?_
        refine r_iload_n hC dL_law_774 rfl rfl ?_
        refine r_iconst hC dL_law_775 ?_
        refine r_iadd hC dL_law_776 ?_
        obtain ⟨o147, hw⟩ := hw
        refine r_sld hC hX o147.1 o147.2 dL_law_777 ?_
        refine r_callV hC (d_S_bars hw) rfl kC11_bars kmL_72 kI11_bars kS11_bars kN11 dd_11_bars ⟨Nat.le_of_ble_eq_true rfl, Nat.le_of_ble_eq_true rfl⟩ rfl (Nat.le_of_ble_eq_true rfl) dL_law_778 (fun r M' hp => ?_)
        obtain ⟨a148, rfl, hw⟩ := hp
        try dsimp only at hw
        refine r_aload_n hC dL_law_781 rfl rfl ?_
        refine r_aload_n hC dL_law_782 rfl rfl ?_
        refine r_iload_n hC dL_law_783 rfl rfl ?_
        refine r_iconst hC dL_law_784 ?_
        refine r_iadd hC dL_law_785 ?_
        obtain ⟨o150, hw⟩ := hw
        refine r_sld hC hX o150.1 o150.2 dL_law_786 ?_
        refine r_callV hC (d_m_bars hw) rfl kC12_bars kmL_75 kI12_bars kS12_bars kN12 dd_12_bars ⟨Nat.le_of_ble_eq_true rfl, Nat.le_of_ble_eq_true rfl⟩ rfl (Nat.le_of_ble_eq_true rfl) dL_law_787 (fun r M' hp => ?_)
        obtain ⟨a151, rfl, hw⟩ := hp
        try dsimp only at hw
        obtain ⟨o153, hw⟩ := hw
        refine r_icmp_same hC 1443 dL_law_790 (by decide) o153 ?_
        refine r_iinc hC dL_law_1443 rfl (by decide) ?_
        refine r_goto hC 18 dL_law_1446 (by decide) ?_
        exact r_subk (hX18 _ _ hw) ⟨rfl, rfl, rfl, rfl, trivial⟩
      | 14, _ =>
        refine ⟨_, 795, rfl, by decide, ?_⟩
        have hw := h14 (by omega)
        refine r_aload_n hC dL_law_795 rfl rfl ?_
        refine r_aload_n hC dL_law_796 rfl rfl ?_
        refine r_iload_n hC dL_law_797 rfl rfl ?_
        refine r_iconst hC dL_law_798 ?_
        refine r_iadd hC dL_law_799 ?_
        obtain ⟨o154, hw⟩ := hw
        refine r_sld hC hX o154.1 o154.2 dL_law_800 ?_
        refine r_callV hC (d_S_toStrike hw) rfl kC11_toStrike kmL_76 kI11_toStrike kS11_toStrike kN11 dd_11_toStrike ⟨Nat.le_of_ble_eq_true rfl, Nat.le_of_ble_eq_true rfl⟩ rfl (Nat.le_of_ble_eq_true rfl) dL_law_801 (fun r M' hp => ?_)
        obtain ⟨a155, rfl, hw⟩ := hp
        try dsimp only at hw
        refine r_aload_n hC dL_law_804 rfl rfl ?_
        refine r_aload_n hC dL_law_805 rfl rfl ?_
        refine r_iload_n hC dL_law_806 rfl rfl ?_
        refine r_iconst hC dL_law_807 ?_
        refine r_iadd hC dL_law_808 ?_
        obtain ⟨o157, hw⟩ := hw
        refine r_sld hC hX o157.1 o157.2 dL_law_809 ?_
        refine r_callV hC (d_m_toStrike hw) rfl kC12_toStrike kmL_79 kI12_toStrike kS12_toStrike kN12 dd_12_toStrike ⟨Nat.le_of_ble_eq_true rfl, Nat.le_of_ble_eq_true rfl⟩ rfl (Nat.le_of_ble_eq_true rfl) dL_law_810 (fun r M' hp => ?_)
        obtain ⟨a158, rfl, hw⟩ := hp
        try dsimp only at hw
        obtain ⟨o160, hw⟩ := hw
        refine r_icmp_same hC 1443 dL_law_813 (by decide) o160 ?_
        refine r_iinc hC dL_law_1443 rfl (by decide) ?_
        refine r_goto hC 18 dL_law_1446 (by decide) ?_
        exact r_subk (hX18 _ _ hw) ⟨rfl, rfl, rfl, rfl, trivial⟩
      | 15, _ =>
        refine ⟨_, 818, rfl, by decide, ?_⟩
        have hw := h15 (by omega)
        refine r_aload_n hC dL_law_818 rfl rfl ?_
        refine r_aload_n hC dL_law_819 rfl rfl ?_
        refine r_iload_n hC dL_law_820 rfl rfl ?_
        refine r_iconst hC dL_law_821 ?_
        refine r_iadd hC dL_law_822 ?_
        obtain ⟨o161, hw⟩ := hw
        refine r_sld hC hX o161.1 o161.2 dL_law_823 ?_
        refine r_aload_n hC dL_law_824 rfl rfl ?_
        refine r_iload_n hC dL_law_825 rfl rfl ?_
        refine r_iconst hC dL_law_826 ?_
        refine r_iadd hC dL_law_827 ?_
        obtain ⟨o162, hw⟩ := hw
        refine r_sld hC hX o162.1 o162.2 dL_law_828 ?_
        refine r_aload_n hC dL_law_829 rfl rfl ?_
        refine r_iload_n hC dL_law_830 rfl rfl ?_
        refine r_iconst hC dL_law_831 ?_
        refine r_iadd hC dL_law_832 ?_
        obtain ⟨o163, hw⟩ := hw
        refine r_sld hC hX o163.1 o163.2 dL_law_833 ?_
        refine r_callV hC (d_S_house hw) rfl kC11_house kmL_80 kI11_house kS11_house kN11 dd_11_house ⟨Nat.le_of_ble_eq_true rfl, Nat.le_of_ble_eq_true rfl⟩ rfl (Nat.le_of_ble_eq_true rfl) dL_law_834 (fun r M' hp => ?_)
        obtain ⟨a164, rfl, hw⟩ := hp
        try dsimp only at hw
        refine r_aload_n hC dL_law_837 rfl rfl ?_
        refine r_aload_n hC dL_law_838 rfl rfl ?_
        refine r_iload_n hC dL_law_839 rfl rfl ?_
        refine r_iconst hC dL_law_840 ?_
        refine r_iadd hC dL_law_841 ?_
        obtain ⟨o166, hw⟩ := hw
        refine r_sld hC hX o166.1 o166.2 dL_law_842 ?_
        refine r_aload_n hC dL_law_843 rfl rfl ?_
        refine r_iload_n hC dL_law_844 rfl rfl ?_
        refine r_iconst hC dL_law_845 ?_
        refine r_iadd hC dL_law_846 ?_
        obtain ⟨o167, hw⟩ := hw
        refine r_sld hC hX o167.1 o167.2 dL_law_847 ?_
        refine r_aload_n hC dL_law_848 rfl rfl ?_
        refine r_iload_n hC dL_law_849 rfl rfl ?_
        refine r_iconst hC dL_law_850 ?_
        refine r_iadd hC dL_law_851 ?_
        obtain ⟨o168, hw⟩ := hw
        refine r_sld hC hX o168.1 o168.2 dL_law_852 ?_
        refine r_callV hC (d_m_house hw) rfl kC12_house kmL_83 kI12_house kS12_house kN12 dd_12_house ⟨Nat.le_of_ble_eq_true rfl, Nat.le_of_ble_eq_true rfl⟩ rfl (Nat.le_of_ble_eq_true rfl) dL_law_853 (fun r M' hp => ?_)
        obtain ⟨a169, rfl, hw⟩ := hp
        try dsimp only at hw
        obtain ⟨o171, hw⟩ := hw
        refine r_icmp_same hC 1443 dL_law_856 (by decide) o171 ?_
        refine r_iinc hC dL_law_1443 rfl (by decide) ?_
        refine r_goto hC 18 dL_law_1446 (by decide) ?_
        exact r_subk (hX18 _ _ hw) ⟨rfl, rfl, rfl, rfl, trivial⟩
      | 16, _ =>
        refine ⟨_, 861, rfl, by decide, ?_⟩
        have hw := h16 (by omega)
        refine r_aload_n hC dL_law_861 rfl rfl ?_
        refine r_aload_n hC dL_law_862 rfl rfl ?_
        refine r_iload_n hC dL_law_863 rfl rfl ?_
        refine r_iconst hC dL_law_864 ?_
        refine r_iadd hC dL_law_865 ?_
        obtain ⟨o172, hw⟩ := hw
        refine r_sld hC hX o172.1 o172.2 dL_law_866 ?_
        refine r_aload_n hC dL_law_867 rfl rfl ?_
        refine r_iload_n hC dL_law_868 rfl rfl ?_
        refine r_iconst hC dL_law_869 ?_
        refine r_iadd hC dL_law_870 ?_
        obtain ⟨o173, hw⟩ := hw
        refine r_sld hC hX o173.1 o173.2 dL_law_871 ?_
        refine r_aload_n hC dL_law_872 rfl rfl ?_
        refine r_iload_n hC dL_law_873 rfl rfl ?_
        refine r_iconst hC dL_law_874 ?_
        refine r_iadd hC dL_law_875 ?_
        obtain ⟨o174, hw⟩ := hw
        refine r_sld hC hX o174.1 o174.2 dL_law_876 ?_
        refine r_callV hC (d_S_sink hw) rfl kC11_sink kmL_84 kI11_sink kS11_sink kN11 dd_11_sink ⟨Nat.le_of_ble_eq_true rfl, Nat.le_of_ble_eq_true rfl⟩ rfl (Nat.le_of_ble_eq_true rfl) dL_law_877 (fun r M' hp => ?_)
        obtain ⟨a175, rfl, hw⟩ := hp
        try dsimp only at hw
        refine r_aload_n hC dL_law_880 rfl rfl ?_
        refine r_aload_n hC dL_law_881 rfl rfl ?_
        refine r_iload_n hC dL_law_882 rfl rfl ?_
        refine r_iconst hC dL_law_883 ?_
        refine r_iadd hC dL_law_884 ?_
        obtain ⟨o177, hw⟩ := hw
        refine r_sld hC hX o177.1 o177.2 dL_law_885 ?_
        refine r_aload_n hC dL_law_886 rfl rfl ?_
        refine r_iload_n hC dL_law_887 rfl rfl ?_
        refine r_iconst hC dL_law_888 ?_
        refine r_iadd hC dL_law_889 ?_
        obtain ⟨o178, hw⟩ := hw
        refine r_sld hC hX o178.1 o178.2 dL_law_890 ?_
        refine r_aload_n hC dL_law_891 rfl rfl ?_
        refine r_iload_n hC dL_law_892 rfl rfl ?_
        refine r_iconst hC dL_law_893 ?_
        refine r_iadd hC dL_law_894 ?_
        obtain ⟨o179, hw⟩ := hw
        refine r_sld hC hX o179.1 o179.2 dL_law_895 ?_
        refine r_callV hC (d_m_sink hw) rfl kC12_sink kmL_87 kI12_sink kS12_sink kN12 dd_12_sink ⟨Nat.le_of_ble_eq_true rfl, Nat.le_of_ble_eq_true rfl⟩ rfl (Nat.le_of_ble_eq_true rfl) dL_law_896 (fun r M' hp => ?_)
        obtain ⟨a180, rfl, hw⟩ := hp
        try dsimp only at hw
        obtain ⟨o182, hw⟩ := hw
        refine r_icmp_same hC 1443 dL_law_899 (by decide) o182 ?_
        refine r_iinc hC dL_law_1443 rfl (by decide) ?_
        refine r_goto hC 18 dL_law_1446 (by decide) ?_
        exact r_subk (hX18 _ _ hw) ⟨rfl, rfl, rfl, rfl, trivial⟩
      | 17, _ =>
        refine ⟨_, 904, rfl, by decide, ?_⟩
        have hw := h17 (by omega)
        refine r_aload_n hC dL_law_904 rfl rfl ?_
        refine r_aload_n hC dL_law_905 rfl rfl ?_
        refine r_iload_n hC dL_law_906 rfl rfl ?_
        refine r_iconst hC dL_law_907 ?_
        refine r_iadd hC dL_law_908 ?_
        obtain ⟨o183, hw⟩ := hw
        refine r_sld hC hX o183.1 o183.2 dL_law_909 ?_
        refine r_aload_n hC dL_law_910 rfl rfl ?_
        refine r_iload_n hC dL_law_911 rfl rfl ?_
        refine r_iconst hC dL_law_912 ?_
        refine r_iadd hC dL_law_913 ?_
        obtain ⟨o184, hw⟩ := hw
        refine r_sld hC hX o184.1 o184.2 dL_law_914 ?_
        refine r_aload_n hC dL_law_915 rfl rfl ?_
        refine r_iload_n hC dL_law_916 rfl rfl ?_
        refine r_iconst hC dL_law_917 ?_
        refine r_iadd hC dL_law_918 ?_
        obtain ⟨o185, hw⟩ := hw
        refine r_sld hC hX o185.1 o185.2 dL_law_919 ?_
        refine r_callV hC (d_S_sunk hw) rfl kC11_sunk kmL_88 kI11_sunk kS11_sunk kN11 dd_11_sunk ⟨Nat.le_of_ble_eq_true rfl, Nat.le_of_ble_eq_true rfl⟩ rfl (Nat.le_of_ble_eq_true rfl) dL_law_920 (fun r M' hp => ?_)
        obtain ⟨a186, rfl, hw⟩ := hp
        try dsimp only at hw
        refine r_aload_n hC dL_law_923 rfl rfl ?_
        refine r_aload_n hC dL_law_924 rfl rfl ?_
        refine r_iload_n hC dL_law_925 rfl rfl ?_
        refine r_iconst hC dL_law_926 ?_
        refine r_iadd hC dL_law_927 ?_
        obtain ⟨o188, hw⟩ := hw
        refine r_sld hC hX o188.1 o188.2 dL_law_928 ?_
        refine r_aload_n hC dL_law_929 rfl rfl ?_
        refine r_iload_n hC dL_law_930 rfl rfl ?_
        refine r_iconst hC dL_law_931 ?_
        refine r_iadd hC dL_law_932 ?_
        obtain ⟨o189, hw⟩ := hw
        refine r_sld hC hX o189.1 o189.2 dL_law_933 ?_
        refine r_aload_n hC dL_law_934 rfl rfl ?_
        refine r_iload_n hC dL_law_935 rfl rfl ?_
        refine r_iconst hC dL_law_936 ?_
        refine r_iadd hC dL_law_937 ?_
        obtain ⟨o190, hw⟩ := hw
        refine r_sld hC hX o190.1 o190.2 dL_law_938 ?_
        refine r_callV hC (d_m_sunk hw) rfl kC12_sunk kmL_92 kI12_sunk kS12_sunk kN12 dd_12_sunk ⟨Nat.le_of_ble_eq_true rfl, Nat.le_of_ble_eq_true rfl⟩ rfl (Nat.le_of_ble_eq_true rfl) dL_law_939 (fun r M' hp => ?_)
        obtain ⟨a191, rfl, hw⟩ := hp
        try dsimp only at hw
        obtain ⟨o193, hw⟩ := hw
        refine r_lcmp_same hC 1443 dL_law_942 dL_law_943 (by decide) o193 ?_
        refine r_iinc hC dL_law_1443 rfl (by decide) ?_
        refine r_goto hC 18 dL_law_1446 (by decide) ?_
        exact r_subk (hX18 _ _ hw) ⟨rfl, rfl, rfl, rfl, trivial⟩
      | 18, _ =>
        refine ⟨_, 948, rfl, by decide, ?_⟩
        have hw := h18 (by omega)
        refine r_aload_n hC dL_law_948 rfl rfl ?_
        refine r_aload_n hC dL_law_949 rfl rfl ?_
        refine r_iload_n hC dL_law_950 rfl rfl ?_
        refine r_iconst hC dL_law_951 ?_
        refine r_iadd hC dL_law_952 ?_
        obtain ⟨o194, hw⟩ := hw
        refine r_sld hC hX o194.1 o194.2 dL_law_953 ?_
        refine r_aload_n hC dL_law_954 rfl rfl ?_
        refine r_iload_n hC dL_law_955 rfl rfl ?_
        refine r_iconst hC dL_law_956 ?_
        refine r_iadd hC dL_law_957 ?_
        obtain ⟨o195, hw⟩ := hw
        refine r_sld hC hX o195.1 o195.2 dL_law_958 ?_
        refine r_aload_n hC dL_law_959 rfl rfl ?_
        refine r_iload_n hC dL_law_960 rfl rfl ?_
        refine r_iconst hC dL_law_961 ?_
        refine r_iadd hC dL_law_962 ?_
        obtain ⟨o196, hw⟩ := hw
        refine r_sld hC hX o196.1 o196.2 dL_law_963 ?_
        refine r_callV hC (d_S_led hw) rfl kC11_led kmL_93 kI11_led kS11_led kN11 dd_11_led ⟨Nat.le_of_ble_eq_true rfl, Nat.le_of_ble_eq_true rfl⟩ rfl (Nat.le_of_ble_eq_true rfl) dL_law_964 (fun r M' hp => ?_)
        obtain ⟨a197, rfl, hw⟩ := hp
        try dsimp only at hw
        refine r_aload_n hC dL_law_967 rfl rfl ?_
        refine r_aload_n hC dL_law_968 rfl rfl ?_
        refine r_iload_n hC dL_law_969 rfl rfl ?_
        refine r_iconst hC dL_law_970 ?_
        refine r_iadd hC dL_law_971 ?_
        obtain ⟨o199, hw⟩ := hw
        refine r_sld hC hX o199.1 o199.2 dL_law_972 ?_
        refine r_aload_n hC dL_law_973 rfl rfl ?_
        refine r_iload_n hC dL_law_974 rfl rfl ?_
        refine r_iconst hC dL_law_975 ?_
        refine r_iadd hC dL_law_976 ?_
        obtain ⟨o200, hw⟩ := hw
        refine r_sld hC hX o200.1 o200.2 dL_law_977 ?_
        refine r_aload_n hC dL_law_978 rfl rfl ?_
        refine r_iload_n hC dL_law_979 rfl rfl ?_
        refine r_iconst hC dL_law_980 ?_
        refine r_iadd hC dL_law_981 ?_
        obtain ⟨o201, hw⟩ := hw
        refine r_sld hC hX o201.1 o201.2 dL_law_982 ?_
        refine r_callV hC (d_m_led hw) rfl kC12_led kmL_96 kI12_led kS12_led kN12 dd_12_led ⟨Nat.le_of_ble_eq_true rfl, Nat.le_of_ble_eq_true rfl⟩ rfl (Nat.le_of_ble_eq_true rfl) dL_law_983 (fun r M' hp => ?_)
        obtain ⟨a202, rfl, hw⟩ := hp
        try dsimp only at hw
        obtain ⟨o204, hw⟩ := hw
        refine r_icmp_same hC 1443 dL_law_986 (by decide) o204 ?_
        refine r_iinc hC dL_law_1443 rfl (by decide) ?_
        refine r_goto hC 18 dL_law_1446 (by decide) ?_
        exact r_subk (hX18 _ _ hw) ⟨rfl, rfl, rfl, rfl, trivial⟩
      | 19, _ =>
        refine ⟨_, 991, rfl, by decide, ?_⟩
        have hw := h19 (by omega)
        refine r_aload_n hC dL_law_991 rfl rfl ?_
        refine r_aload_n hC dL_law_992 rfl rfl ?_
        refine r_iload_n hC dL_law_993 rfl rfl ?_
        refine r_iconst hC dL_law_994 ?_
        refine r_iadd hC dL_law_995 ?_
        obtain ⟨o205, hw⟩ := hw
        refine r_sld hC hX o205.1 o205.2 dL_law_996 ?_
        refine r_aload_n hC dL_law_997 rfl rfl ?_
        refine r_iload_n hC dL_law_998 rfl rfl ?_
        refine r_iconst hC dL_law_999 ?_
        refine r_iadd hC dL_law_1000 ?_
        obtain ⟨o206, hw⟩ := hw
        refine r_sld hC hX o206.1 o206.2 dL_law_1001 ?_
        refine r_aload_n hC dL_law_1002 rfl rfl ?_
        refine r_iload_n hC dL_law_1003 rfl rfl ?_
        refine r_iconst hC dL_law_1004 ?_
        refine r_iadd hC dL_law_1005 ?_
        obtain ⟨o207, hw⟩ := hw
        refine r_sld hC hX o207.1 o207.2 dL_law_1006 ?_
        refine r_callV hC (d_S_lean hw) rfl kC11_lean kmL_97 kI11_lean kS11_lean kN11 dd_11_lean ⟨Nat.le_of_ble_eq_true rfl, Nat.le_of_ble_eq_true rfl⟩ rfl (Nat.le_of_ble_eq_true rfl) dL_law_1007 (fun r M' hp => ?_)
        obtain ⟨a208, rfl, hw⟩ := hp
        try dsimp only at hw
        refine r_aload_n hC dL_law_1010 rfl rfl ?_
        refine r_aload_n hC dL_law_1011 rfl rfl ?_
        refine r_iload_n hC dL_law_1012 rfl rfl ?_
        refine r_iconst hC dL_law_1013 ?_
        refine r_iadd hC dL_law_1014 ?_
        obtain ⟨o210, hw⟩ := hw
        refine r_sld hC hX o210.1 o210.2 dL_law_1015 ?_
        refine r_aload_n hC dL_law_1016 rfl rfl ?_
        refine r_iload_n hC dL_law_1017 rfl rfl ?_
        refine r_iconst hC dL_law_1018 ?_
        refine r_iadd hC dL_law_1019 ?_
        obtain ⟨o211, hw⟩ := hw
        refine r_sld hC hX o211.1 o211.2 dL_law_1020 ?_
        refine r_aload_n hC dL_law_1021 rfl rfl ?_
        refine r_iload_n hC dL_law_1022 rfl rfl ?_
        refine r_iconst hC dL_law_1023 ?_
        refine r_iadd hC dL_law_1024 ?_
        obtain ⟨o212, hw⟩ := hw
        refine r_sld hC hX o212.1 o212.2 dL_law_1025 ?_
        refine r_callV hC (d_m_lean hw) rfl kC12_lean kmL_100 kI12_lean kS12_lean kN12 dd_12_lean ⟨Nat.le_of_ble_eq_true rfl, Nat.le_of_ble_eq_true rfl⟩ rfl (Nat.le_of_ble_eq_true rfl) dL_law_1026 (fun r M' hp => ?_)
        obtain ⟨a213, rfl, hw⟩ := hp
        try dsimp only at hw
        obtain ⟨o215, hw⟩ := hw
        refine r_icmp_same hC 1443 dL_law_1029 (by decide) o215 ?_
        refine r_iinc hC dL_law_1443 rfl (by decide) ?_
        refine r_goto hC 18 dL_law_1446 (by decide) ?_
        exact r_subk (hX18 _ _ hw) ⟨rfl, rfl, rfl, rfl, trivial⟩
      | 20, _ =>
        refine ⟨_, 1034, rfl, by decide, ?_⟩
        have hw := h20 (by omega)
        refine r_aload_n hC dL_law_1034 rfl rfl ?_
        refine r_aload_n hC dL_law_1035 rfl rfl ?_
        refine r_iload_n hC dL_law_1036 rfl rfl ?_
        refine r_iconst hC dL_law_1037 ?_
        refine r_iadd hC dL_law_1038 ?_
        obtain ⟨o216, hw⟩ := hw
        refine r_sld hC hX o216.1 o216.2 dL_law_1039 ?_
        refine r_aload_n hC dL_law_1040 rfl rfl ?_
        refine r_iload_n hC dL_law_1041 rfl rfl ?_
        refine r_iconst hC dL_law_1042 ?_
        refine r_iadd hC dL_law_1043 ?_
        obtain ⟨o217, hw⟩ := hw
        refine r_sld hC hX o217.1 o217.2 dL_law_1044 ?_
        refine r_aload_n hC dL_law_1045 rfl rfl ?_
        refine r_iload_n hC dL_law_1046 rfl rfl ?_
        refine r_iconst hC dL_law_1047 ?_
        refine r_iadd hC dL_law_1048 ?_
        obtain ⟨o218, hw⟩ := hw
        refine r_sld hC hX o218.1 o218.2 dL_law_1049 ?_
        refine r_aload_n hC dL_law_1050 rfl rfl ?_
        refine r_iload_n hC dL_law_1051 rfl rfl ?_
        refine r_iconst hC dL_law_1052 ?_
        refine r_iadd hC dL_law_1053 ?_
        obtain ⟨o219, hw⟩ := hw
        refine r_sld hC hX o219.1 o219.2 dL_law_1054 ?_
        refine r_callV hC (d_S_tank hw) rfl kC11_tank kmL_101 kI11_tank kS11_tank kN11 dd_11_tank ⟨Nat.le_of_ble_eq_true rfl, Nat.le_of_ble_eq_true rfl⟩ rfl (Nat.le_of_ble_eq_true rfl) dL_law_1055 (fun r M' hp => ?_)
        obtain ⟨a220, rfl, hw⟩ := hp
        try dsimp only at hw
        refine r_aload_n hC dL_law_1058 rfl rfl ?_
        refine r_aload_n hC dL_law_1059 rfl rfl ?_
        refine r_iload_n hC dL_law_1060 rfl rfl ?_
        refine r_iconst hC dL_law_1061 ?_
        refine r_iadd hC dL_law_1062 ?_
        obtain ⟨o222, hw⟩ := hw
        refine r_sld hC hX o222.1 o222.2 dL_law_1063 ?_
        refine r_aload_n hC dL_law_1064 rfl rfl ?_
        refine r_iload_n hC dL_law_1065 rfl rfl ?_
        refine r_iconst hC dL_law_1066 ?_
        refine r_iadd hC dL_law_1067 ?_
        obtain ⟨o223, hw⟩ := hw
        refine r_sld hC hX o223.1 o223.2 dL_law_1068 ?_
        refine r_aload_n hC dL_law_1069 rfl rfl ?_
        refine r_iload_n hC dL_law_1070 rfl rfl ?_
        refine r_iconst hC dL_law_1071 ?_
        refine r_iadd hC dL_law_1072 ?_
        obtain ⟨o224, hw⟩ := hw
        refine r_sld hC hX o224.1 o224.2 dL_law_1073 ?_
        refine r_aload_n hC dL_law_1074 rfl rfl ?_
        refine r_iload_n hC dL_law_1075 rfl rfl ?_
        refine r_iconst hC dL_law_1076 ?_
        refine r_iadd hC dL_law_1077 ?_
        obtain ⟨o225, hw⟩ := hw
        refine r_sld hC hX o225.1 o225.2 dL_law_1078 ?_
        refine r_callV hC (d_m_tank hw) rfl kC12_tank kmL_104 kI12_tank kS12_tank kN12 dd_12_tank ⟨Nat.le_of_ble_eq_true rfl, Nat.le_of_ble_eq_true rfl⟩ rfl (Nat.le_of_ble_eq_true rfl) dL_law_1079 (fun r M' hp => ?_)
        obtain ⟨a226, rfl, hw⟩ := hp
        try dsimp only at hw
        obtain ⟨o228, hw⟩ := hw
        refine r_icmp_same hC 1443 dL_law_1082 (by decide) o228 ?_
        refine r_iinc hC dL_law_1443 rfl (by decide) ?_
        refine r_goto hC 18 dL_law_1446 (by decide) ?_
        exact r_subk (hX18 _ _ hw) ⟨rfl, rfl, rfl, rfl, trivial⟩
      | 21, _ =>
        refine ⟨_, 1087, rfl, by decide, ?_⟩
        have hw := h21 (by omega)
        refine r_aload_n hC dL_law_1087 rfl rfl ?_
        refine r_aload_n hC dL_law_1088 rfl rfl ?_
        refine r_iload_n hC dL_law_1089 rfl rfl ?_
        refine r_iconst hC dL_law_1090 ?_
        refine r_iadd hC dL_law_1091 ?_
        obtain ⟨o229, hw⟩ := hw
        refine r_sld hC hX o229.1 o229.2 dL_law_1092 ?_
        refine r_aload_n hC dL_law_1093 rfl rfl ?_
        refine r_iload_n hC dL_law_1094 rfl rfl ?_
        refine r_iconst hC dL_law_1095 ?_
        refine r_iadd hC dL_law_1096 ?_
        obtain ⟨o230, hw⟩ := hw
        refine r_sld hC hX o230.1 o230.2 dL_law_1097 ?_
        refine r_callV hC (d_S_floats hw) rfl kC11_floats kmL_105 kI11_floats kS11_floats kN11 dd_11_floats ⟨Nat.le_of_ble_eq_true rfl, Nat.le_of_ble_eq_true rfl⟩ rfl (Nat.le_of_ble_eq_true rfl) dL_law_1098 (fun r M' hp => ?_)
        obtain ⟨a231, rfl, hw⟩ := hp
        try dsimp only at hw
        refine r_aload_n hC dL_law_1101 rfl rfl ?_
        refine r_aload_n hC dL_law_1102 rfl rfl ?_
        refine r_iload_n hC dL_law_1103 rfl rfl ?_
        refine r_iconst hC dL_law_1104 ?_
        refine r_iadd hC dL_law_1105 ?_
        obtain ⟨o233, hw⟩ := hw
        refine r_sld hC hX o233.1 o233.2 dL_law_1106 ?_
        refine r_aload_n hC dL_law_1107 rfl rfl ?_
        refine r_iload_n hC dL_law_1108 rfl rfl ?_
        refine r_iconst hC dL_law_1109 ?_
        refine r_iadd hC dL_law_1110 ?_
        obtain ⟨o234, hw⟩ := hw
        refine r_sld hC hX o234.1 o234.2 dL_law_1111 ?_
        refine r_callV hC (d_m_floats hw) rfl kC12_floats kmL_108 kI12_floats kS12_floats kN12 dd_12_floats ⟨Nat.le_of_ble_eq_true rfl, Nat.le_of_ble_eq_true rfl⟩ rfl (Nat.le_of_ble_eq_true rfl) dL_law_1112 (fun r M' hp => ?_)
        obtain ⟨a235, rfl, hw⟩ := hp
        try dsimp only at hw
        obtain ⟨o237, hw⟩ := hw
        refine r_icmp_same hC 1443 dL_law_1115 (by decide) o237 ?_
        refine r_iinc hC dL_law_1443 rfl (by decide) ?_
        refine r_goto hC 18 dL_law_1446 (by decide) ?_
        exact r_subk (hX18 _ _ hw) ⟨rfl, rfl, rfl, rfl, trivial⟩
      | 22, _ =>
        refine ⟨_, 1120, rfl, by decide, ?_⟩
        have hw := h22 (by omega)
        refine r_aload_n hC dL_law_1120 rfl rfl ?_
        refine r_aload_n hC dL_law_1121 rfl rfl ?_
        refine r_iload_n hC dL_law_1122 rfl rfl ?_
        refine r_iconst hC dL_law_1123 ?_
        refine r_iadd hC dL_law_1124 ?_
        obtain ⟨o238, hw⟩ := hw
        refine r_sld hC hX o238.1 o238.2 dL_law_1125 ?_
        refine r_aload_n hC dL_law_1126 rfl rfl ?_
        refine r_iload_n hC dL_law_1127 rfl rfl ?_
        refine r_iconst hC dL_law_1128 ?_
        refine r_iadd hC dL_law_1129 ?_
        obtain ⟨o239, hw⟩ := hw
        refine r_sld hC hX o239.1 o239.2 dL_law_1130 ?_
        refine r_aload_n hC dL_law_1131 rfl rfl ?_
        refine r_iload_n hC dL_law_1132 rfl rfl ?_
        refine r_iconst hC dL_law_1133 ?_
        refine r_iadd hC dL_law_1134 ?_
        obtain ⟨o240, hw⟩ := hw
        refine r_sld hC hX o240.1 o240.2 dL_law_1135 ?_
        refine r_aload_n hC dL_law_1136 rfl rfl ?_
        refine r_iload_n hC dL_law_1137 rfl rfl ?_
        refine r_iconst hC dL_law_1138 ?_
        refine r_iadd hC dL_law_1139 ?_
        obtain ⟨o241, hw⟩ := hw
        refine r_sld hC hX o241.1 o241.2 dL_law_1140 ?_
        refine r_aload_n hC dL_law_1141 rfl rfl ?_
        refine r_iload_n hC dL_law_1142 rfl rfl ?_
        refine r_iconst hC dL_law_1143 ?_
        refine r_iadd hC dL_law_1144 ?_
        obtain ⟨o242, hw⟩ := hw
        refine r_sld hC hX o242.1 o242.2 dL_law_1145 ?_
        refine r_callV hC (d_S_margin hw) rfl kC11_margin kmL_109 kI11_margin kS11_margin kN11 dd_11_margin ⟨Nat.le_of_ble_eq_true rfl, Nat.le_of_ble_eq_true rfl⟩ rfl (Nat.le_of_ble_eq_true rfl) dL_law_1146 (fun r M' hp => ?_)
        obtain ⟨a243, rfl, hw⟩ := hp
        try dsimp only at hw
        refine r_aload_n hC dL_law_1149 rfl rfl ?_
        refine r_aload_n hC dL_law_1150 rfl rfl ?_
        refine r_iload_n hC dL_law_1151 rfl rfl ?_
        refine r_iconst hC dL_law_1152 ?_
        refine r_iadd hC dL_law_1153 ?_
        obtain ⟨o245, hw⟩ := hw
        refine r_sld hC hX o245.1 o245.2 dL_law_1154 ?_
        refine r_aload_n hC dL_law_1155 rfl rfl ?_
        refine r_iload_n hC dL_law_1156 rfl rfl ?_
        refine r_iconst hC dL_law_1157 ?_
        refine r_iadd hC dL_law_1158 ?_
        obtain ⟨o246, hw⟩ := hw
        refine r_sld hC hX o246.1 o246.2 dL_law_1159 ?_
        refine r_aload_n hC dL_law_1160 rfl rfl ?_
        refine r_iload_n hC dL_law_1161 rfl rfl ?_
        refine r_iconst hC dL_law_1162 ?_
        refine r_iadd hC dL_law_1163 ?_
        obtain ⟨o247, hw⟩ := hw
        refine r_sld hC hX o247.1 o247.2 dL_law_1164 ?_
        refine r_aload_n hC dL_law_1165 rfl rfl ?_
        refine r_iload_n hC dL_law_1166 rfl rfl ?_
        refine r_iconst hC dL_law_1167 ?_
        refine r_iadd hC dL_law_1168 ?_
        obtain ⟨o248, hw⟩ := hw
        refine r_sld hC hX o248.1 o248.2 dL_law_1169 ?_
        refine r_aload_n hC dL_law_1170 rfl rfl ?_
        refine r_iload_n hC dL_law_1171 rfl rfl ?_
        refine r_iconst hC dL_law_1172 ?_
        refine r_iadd hC dL_law_1173 ?_
        obtain ⟨o249, hw⟩ := hw
        refine r_sld hC hX o249.1 o249.2 dL_law_1174 ?_
        refine r_callV hC (d_m_margin hw) rfl kC12_margin kmL_113 kI12_margin kS12_margin kN12 dd_12_margin ⟨Nat.le_of_ble_eq_true rfl, Nat.le_of_ble_eq_true rfl⟩ rfl (Nat.le_of_ble_eq_true rfl) dL_law_1175 (fun r M' hp => ?_)
        obtain ⟨a250, rfl, hw⟩ := hp
        try dsimp only at hw
        obtain ⟨o252, hw⟩ := hw
        refine r_lcmp_same hC 1443 dL_law_1178 dL_law_1179 (by decide) o252 ?_
        refine r_iinc hC dL_law_1443 rfl (by decide) ?_
        refine r_goto hC 18 dL_law_1446 (by decide) ?_
        exact r_subk (hX18 _ _ hw) ⟨rfl, rfl, rfl, rfl, trivial⟩
      | 23, _ =>
        refine ⟨_, 1184, rfl, by decide, ?_⟩
        have hw := h23 (by omega)
        refine r_aload_n hC dL_law_1184 rfl rfl ?_
        refine r_aload_n hC dL_law_1185 rfl rfl ?_
        refine r_iload_n hC dL_law_1186 rfl rfl ?_
        refine r_iconst hC dL_law_1187 ?_
        refine r_iadd hC dL_law_1188 ?_
        obtain ⟨o253, hw⟩ := hw
        refine r_sld hC hX o253.1 o253.2 dL_law_1189 ?_
        refine r_aload_n hC dL_law_1190 rfl rfl ?_
        refine r_iload_n hC dL_law_1191 rfl rfl ?_
        refine r_iconst hC dL_law_1192 ?_
        refine r_iadd hC dL_law_1193 ?_
        obtain ⟨o254, hw⟩ := hw
        refine r_sld hC hX o254.1 o254.2 dL_law_1194 ?_
        refine r_callV hC (d_S_least hw) rfl kC11_least kmL_114 kI11_least kS11_least kN11 dd_11_least ⟨Nat.le_of_ble_eq_true rfl, Nat.le_of_ble_eq_true rfl⟩ rfl (Nat.le_of_ble_eq_true rfl) dL_law_1195 (fun r M' hp => ?_)
        obtain ⟨a255, rfl, hw⟩ := hp
        try dsimp only at hw
        refine r_aload_n hC dL_law_1198 rfl rfl ?_
        refine r_aload_n hC dL_law_1199 rfl rfl ?_
        refine r_iload_n hC dL_law_1200 rfl rfl ?_
        refine r_iconst hC dL_law_1201 ?_
        refine r_iadd hC dL_law_1202 ?_
        obtain ⟨o257, hw⟩ := hw
        refine r_sld hC hX o257.1 o257.2 dL_law_1203 ?_
        refine r_aload_n hC dL_law_1204 rfl rfl ?_
        refine r_iload_n hC dL_law_1205 rfl rfl ?_
        refine r_iconst hC dL_law_1206 ?_
        refine r_iadd hC dL_law_1207 ?_
        obtain ⟨o258, hw⟩ := hw
        refine r_sld hC hX o258.1 o258.2 dL_law_1208 ?_
        refine r_callV hC (d_m_least hw) rfl kC12_least kmL_118 kI12_least kS12_least kN12 dd_12_least ⟨Nat.le_of_ble_eq_true rfl, Nat.le_of_ble_eq_true rfl⟩ rfl (Nat.le_of_ble_eq_true rfl) dL_law_1209 (fun r M' hp => ?_)
        obtain ⟨a259, rfl, hw⟩ := hp
        try dsimp only at hw
        obtain ⟨o261, hw⟩ := hw
        refine r_lcmp_same hC 1443 dL_law_1212 dL_law_1213 (by decide) o261 ?_
        refine r_iinc hC dL_law_1443 rfl (by decide) ?_
        refine r_goto hC 18 dL_law_1446 (by decide) ?_
        exact r_subk (hX18 _ _ hw) ⟨rfl, rfl, rfl, rfl, trivial⟩
      | 24, _ =>
        refine ⟨_, 1218, rfl, by decide, ?_⟩
        have hw := h24 (by omega)
        refine r_aload_n hC dL_law_1218 rfl rfl ?_
        refine r_aload_n hC dL_law_1219 rfl rfl ?_
        refine r_iload_n hC dL_law_1220 rfl rfl ?_
        refine r_iconst hC dL_law_1221 ?_
        refine r_iadd hC dL_law_1222 ?_
        obtain ⟨o262, hw⟩ := hw
        refine r_sld hC hX o262.1 o262.2 dL_law_1223 ?_
        refine r_aload_n hC dL_law_1224 rfl rfl ?_
        refine r_iload_n hC dL_law_1225 rfl rfl ?_
        refine r_iconst hC dL_law_1226 ?_
        refine r_iadd hC dL_law_1227 ?_
        obtain ⟨o263, hw⟩ := hw
        refine r_sld hC hX o263.1 o263.2 dL_law_1228 ?_
        refine r_aload_n hC dL_law_1229 rfl rfl ?_
        refine r_iload_n hC dL_law_1230 rfl rfl ?_
        refine r_iconst hC dL_law_1231 ?_
        refine r_iadd hC dL_law_1232 ?_
        obtain ⟨o264, hw⟩ := hw
        refine r_sld hC hX o264.1 o264.2 dL_law_1233 ?_
        refine r_aload_n hC dL_law_1234 rfl rfl ?_
        refine r_iload_n hC dL_law_1235 rfl rfl ?_
        refine r_iconst hC dL_law_1236 ?_
        refine r_iadd hC dL_law_1237 ?_
        obtain ⟨o265, hw⟩ := hw
        refine r_sld hC hX o265.1 o265.2 dL_law_1238 ?_
        refine r_callV hC (d_S_work hw) rfl kC11_work kmL_119 kI11_work kS11_work kN11 dd_11_work ⟨Nat.le_of_ble_eq_true rfl, Nat.le_of_ble_eq_true rfl⟩ rfl (Nat.le_of_ble_eq_true rfl) dL_law_1239 (fun r M' hp => ?_)
        obtain ⟨a266, rfl, hw⟩ := hp
        try dsimp only at hw
        refine r_aload_n hC dL_law_1242 rfl rfl ?_
        refine r_aload_n hC dL_law_1243 rfl rfl ?_
        refine r_iload_n hC dL_law_1244 rfl rfl ?_
        refine r_iconst hC dL_law_1245 ?_
        refine r_iadd hC dL_law_1246 ?_
        obtain ⟨o268, hw⟩ := hw
        refine r_sld hC hX o268.1 o268.2 dL_law_1247 ?_
        refine r_aload_n hC dL_law_1248 rfl rfl ?_
        refine r_iload_n hC dL_law_1249 rfl rfl ?_
        refine r_iconst hC dL_law_1250 ?_
        refine r_iadd hC dL_law_1251 ?_
        obtain ⟨o269, hw⟩ := hw
        refine r_sld hC hX o269.1 o269.2 dL_law_1252 ?_
        refine r_aload_n hC dL_law_1253 rfl rfl ?_
        refine r_iload_n hC dL_law_1254 rfl rfl ?_
        refine r_iconst hC dL_law_1255 ?_
        refine r_iadd hC dL_law_1256 ?_
        obtain ⟨o270, hw⟩ := hw
        refine r_sld hC hX o270.1 o270.2 dL_law_1257 ?_
        refine r_aload_n hC dL_law_1258 rfl rfl ?_
        refine r_iload_n hC dL_law_1259 rfl rfl ?_
        refine r_iconst hC dL_law_1260 ?_
        refine r_iadd hC dL_law_1261 ?_
        obtain ⟨o271, hw⟩ := hw
        refine r_sld hC hX o271.1 o271.2 dL_law_1262 ?_
        refine r_callV hC (d_m_work hw) rfl kC12_work kmL_122 kI12_work kS12_work kN12 dd_12_work ⟨Nat.le_of_ble_eq_true rfl, Nat.le_of_ble_eq_true rfl⟩ rfl (Nat.le_of_ble_eq_true rfl) dL_law_1263 (fun r M' hp => ?_)
        obtain ⟨a272, rfl, hw⟩ := hp
        try dsimp only at hw
        obtain ⟨o274, hw⟩ := hw
        refine r_icmp_same hC 1443 dL_law_1266 (by decide) o274 ?_
        refine r_iinc hC dL_law_1443 rfl (by decide) ?_
        refine r_goto hC 18 dL_law_1446 (by decide) ?_
        exact r_subk (hX18 _ _ hw) ⟨rfl, rfl, rfl, rfl, trivial⟩
      | 25, _ =>
        refine ⟨_, 1271, rfl, by decide, ?_⟩
        have hw := h25 (by omega)
        refine r_aload_n hC dL_law_1271 rfl rfl ?_
        refine r_aload_n hC dL_law_1272 rfl rfl ?_
        refine r_iload_n hC dL_law_1273 rfl rfl ?_
        refine r_iconst hC dL_law_1274 ?_
        refine r_iadd hC dL_law_1275 ?_
        obtain ⟨o275, hw⟩ := hw
        refine r_sld hC hX o275.1 o275.2 dL_law_1276 ?_
        refine r_callV hC (d_S_stands hw) rfl kC11_stands kmL_123 kI11_stands kS11_stands kN11 dd_11_stands ⟨Nat.le_of_ble_eq_true rfl, Nat.le_of_ble_eq_true rfl⟩ rfl (Nat.le_of_ble_eq_true rfl) dL_law_1277 (fun r M' hp => ?_)
        obtain ⟨a276, rfl, hw⟩ := hp
        try dsimp only at hw
        refine r_aload_n hC dL_law_1280 rfl rfl ?_
        refine r_aload_n hC dL_law_1281 rfl rfl ?_
        refine r_iload_n hC dL_law_1282 rfl rfl ?_
        refine r_iconst hC dL_law_1283 ?_
        refine r_iadd hC dL_law_1284 ?_
        obtain ⟨o278, hw⟩ := hw
        refine r_sld hC hX o278.1 o278.2 dL_law_1285 ?_
        refine r_callV hC (d_m_stands hw) rfl kC12_stands kmL_126 kI12_stands kS12_stands kN12 dd_12_stands ⟨Nat.le_of_ble_eq_true rfl, Nat.le_of_ble_eq_true rfl⟩ rfl (Nat.le_of_ble_eq_true rfl) dL_law_1286 (fun r M' hp => ?_)
        obtain ⟨a279, rfl, hw⟩ := hp
        try dsimp only at hw
        obtain ⟨o281, hw⟩ := hw
        refine r_icmp_same hC 1443 dL_law_1289 (by decide) o281 ?_
        refine r_iinc hC dL_law_1443 rfl (by decide) ?_
        refine r_goto hC 18 dL_law_1446 (by decide) ?_
        exact r_subk (hX18 _ _ hw) ⟨rfl, rfl, rfl, rfl, trivial⟩
      | 26, _ =>
        refine ⟨_, 1294, rfl, by decide, ?_⟩
        have hw := h26 (by omega)
        refine r_aload_n hC dL_law_1294 rfl rfl ?_
        refine r_aload_n hC dL_law_1295 rfl rfl ?_
        refine r_iload_n hC dL_law_1296 rfl rfl ?_
        refine r_iconst hC dL_law_1297 ?_
        refine r_iadd hC dL_law_1298 ?_
        obtain ⟨o282, hw⟩ := hw
        refine r_sld hC hX o282.1 o282.2 dL_law_1299 ?_
        refine r_callV hC (d_S_plan hw) rfl kC11_plan kmL_127 kI11_plan kS11_plan kN11 dd_11_plan ⟨Nat.le_of_ble_eq_true rfl, Nat.le_of_ble_eq_true rfl⟩ rfl (Nat.le_of_ble_eq_true rfl) dL_law_1300 (fun r M' hp => ?_)
        obtain ⟨a283, rfl, hw⟩ := hp
        try dsimp only at hw
        refine r_aload_n hC dL_law_1303 rfl rfl ?_
        refine r_aload_n hC dL_law_1304 rfl rfl ?_
        refine r_iload_n hC dL_law_1305 rfl rfl ?_
        refine r_iconst hC dL_law_1306 ?_
        refine r_iadd hC dL_law_1307 ?_
        obtain ⟨o285, hw⟩ := hw
        refine r_sld hC hX o285.1 o285.2 dL_law_1308 ?_
        refine r_callV hC (d_m_plan hw) rfl kC12_plan kmL_130 kI12_plan kS12_plan kN12 dd_12_plan ⟨Nat.le_of_ble_eq_true rfl, Nat.le_of_ble_eq_true rfl⟩ rfl (Nat.le_of_ble_eq_true rfl) dL_law_1309 (fun r M' hp => ?_)
        obtain ⟨a286, rfl, hw⟩ := hp
        try dsimp only at hw
        obtain ⟨o288, hw⟩ := hw
        refine r_icmp_same hC 1443 dL_law_1312 (by decide) o288 ?_
        refine r_iinc hC dL_law_1443 rfl (by decide) ?_
        refine r_goto hC 18 dL_law_1446 (by decide) ?_
        exact r_subk (hX18 _ _ hw) ⟨rfl, rfl, rfl, rfl, trivial⟩
      | 27, _ =>
        refine ⟨_, 1317, rfl, by decide, ?_⟩
        have hw := h27 (by omega)
        refine r_aload_n hC dL_law_1317 rfl rfl ?_
        refine r_callV hC (d_S_loss hw) rfl kC11_loss kmL_131 kI11_loss kS11_loss kN11 dd_11_loss ⟨Nat.le_of_ble_eq_true rfl, Nat.le_of_ble_eq_true rfl⟩ rfl (Nat.le_of_ble_eq_true rfl) dL_law_1318 (fun r M' hp => ?_)
        obtain ⟨a289, rfl, hw⟩ := hp
        try dsimp only at hw
        refine r_aload_n hC dL_law_1321 rfl rfl ?_
        refine r_callV hC (d_m_loss hw) rfl kC12_loss kmL_135 kI12_loss kS12_loss kN12 dd_12_loss ⟨Nat.le_of_ble_eq_true rfl, Nat.le_of_ble_eq_true rfl⟩ rfl (Nat.le_of_ble_eq_true rfl) dL_law_1322 (fun r M' hp => ?_)
        obtain ⟨a291, rfl, hw⟩ := hp
        try dsimp only at hw
        obtain ⟨o293, hw⟩ := hw
        refine r_lcmp_same hC 1443 dL_law_1325 dL_law_1326 (by decide) o293 ?_
        refine r_iinc hC dL_law_1443 rfl (by decide) ?_
        refine r_goto hC 18 dL_law_1446 (by decide) ?_
        exact r_subk (hX18 _ _ hw) ⟨rfl, rfl, rfl, rfl, trivial⟩
      | 28, _ =>
        refine ⟨_, 1331, rfl, by decide, ?_⟩
        have hw := h28 (by omega)
        refine r_aload_n hC dL_law_1331 rfl rfl ?_
        refine r_aload_n hC dL_law_1332 rfl rfl ?_
        refine r_iload_n hC dL_law_1333 rfl rfl ?_
        refine r_iconst hC dL_law_1334 ?_
        refine r_iadd hC dL_law_1335 ?_
        obtain ⟨o294, hw⟩ := hw
        refine r_sld hC hX o294.1 o294.2 dL_law_1336 ?_
        refine r_aload_n hC dL_law_1337 rfl rfl ?_
        refine r_iload_n hC dL_law_1338 rfl rfl ?_
        refine r_iconst hC dL_law_1339 ?_
        refine r_iadd hC dL_law_1340 ?_
        obtain ⟨o295, hw⟩ := hw
        refine r_sld hC hX o295.1 o295.2 dL_law_1341 ?_
        obtain ⟨o296, hw⟩ := hw
        refine r_i2l hC dL_law_1342 o296.1 o296.2 ?_
        refine r_bipush hC dL_law_1343 (by decide) ?_
        refine r_lshl hC dL_law_1345 ?_
        refine r_aload_n hC dL_law_1346 rfl rfl ?_
        refine r_iload_n hC dL_law_1347 rfl rfl ?_
        refine r_iconst hC dL_law_1348 ?_
        refine r_iadd hC dL_law_1349 ?_
        obtain ⟨o297, hw⟩ := hw
        refine r_sld hC hX o297.1 o297.2 dL_law_1350 ?_
        obtain ⟨o298, hw⟩ := hw
        refine r_i2l hC dL_law_1351 o298.1 o298.2 ?_
        refine r_ldc2 hC (4294967295) dL_law_1352 kLL_136 (by decide) ?_
        refine r_land hC dL_law_1355 ?_
        refine r_lor hC dL_law_1356 ?_
        refine r_callV hC (d_S_feed hw) rfl kC11_feed kmL_138 kI11_feed kS11_feed kN11 dd_11_feed ⟨Nat.le_of_ble_eq_true rfl, Nat.le_of_ble_eq_true rfl⟩ rfl (Nat.le_of_ble_eq_true rfl) dL_law_1357 (fun r M' hp => ?_)
        obtain ⟨a299, rfl, hw⟩ := hp
        try dsimp only at hw
        refine r_aload_n hC dL_law_1360 rfl rfl ?_
        refine r_aload_n hC dL_law_1361 rfl rfl ?_
        refine r_iload_n hC dL_law_1362 rfl rfl ?_
        refine r_iconst hC dL_law_1363 ?_
        refine r_iadd hC dL_law_1364 ?_
        obtain ⟨o301, hw⟩ := hw
        refine r_sld hC hX o301.1 o301.2 dL_law_1365 ?_
        refine r_aload_n hC dL_law_1366 rfl rfl ?_
        refine r_iload_n hC dL_law_1367 rfl rfl ?_
        refine r_iconst hC dL_law_1368 ?_
        refine r_iadd hC dL_law_1369 ?_
        obtain ⟨o302, hw⟩ := hw
        refine r_sld hC hX o302.1 o302.2 dL_law_1370 ?_
        obtain ⟨o303, hw⟩ := hw
        refine r_i2l hC dL_law_1371 o303.1 o303.2 ?_
        refine r_bipush hC dL_law_1372 (by decide) ?_
        refine r_lshl hC dL_law_1374 ?_
        refine r_aload_n hC dL_law_1375 rfl rfl ?_
        refine r_iload_n hC dL_law_1376 rfl rfl ?_
        refine r_iconst hC dL_law_1377 ?_
        refine r_iadd hC dL_law_1378 ?_
        obtain ⟨o304, hw⟩ := hw
        refine r_sld hC hX o304.1 o304.2 dL_law_1379 ?_
        obtain ⟨o305, hw⟩ := hw
        refine r_i2l hC dL_law_1380 o305.1 o305.2 ?_
        refine r_ldc2 hC (4294967295) dL_law_1381 kLL_136 (by decide) ?_
        refine r_land hC dL_law_1384 ?_
        refine r_lor hC dL_law_1385 ?_
        refine r_callV hC (d_m_feed hw) rfl kC12_feed kmL_142 kI12_feed kS12_feed kN12 dd_12_feed ⟨Nat.le_of_ble_eq_true rfl, Nat.le_of_ble_eq_true rfl⟩ rfl (Nat.le_of_ble_eq_true rfl) dL_law_1386 (fun r M' hp => ?_)
        obtain ⟨a306, rfl, hw⟩ := hp
        try dsimp only at hw
        obtain ⟨o308, hw⟩ := hw
        refine r_icmp_same hC 1443 dL_law_1389 (by decide) o308 ?_
        refine r_iinc hC dL_law_1443 rfl (by decide) ?_
        refine r_goto hC 18 dL_law_1446 (by decide) ?_
        exact r_subk (hX18 _ _ hw) ⟨rfl, rfl, rfl, rfl, trivial⟩
      | 29, _ =>
        refine ⟨_, 1394, rfl, by decide, ?_⟩
        have hw := h29 (by omega)
        refine r_aload_n hC dL_law_1394 rfl rfl ?_
        refine r_callV hC (d_S_read hw) rfl kC11_read kmL_143 kI11_read kS11_read kN11 dd_11_read ⟨Nat.le_of_ble_eq_true rfl, Nat.le_of_ble_eq_true rfl⟩ rfl (Nat.le_of_ble_eq_true rfl) dL_law_1395 (fun r M' hp => ?_)
        obtain ⟨a309, rfl, hw⟩ := hp
        try dsimp only at hw
        refine r_aload_n hC dL_law_1398 rfl rfl ?_
        refine r_callV hC (d_m_read hw) rfl kC12_read kmL_147 kI12_read kS12_read kN12 dd_12_read ⟨Nat.le_of_ble_eq_true rfl, Nat.le_of_ble_eq_true rfl⟩ rfl (Nat.le_of_ble_eq_true rfl) dL_law_1399 (fun r M' hp => ?_)
        obtain ⟨a311, rfl, hw⟩ := hp
        try dsimp only at hw
        obtain ⟨o313, hw⟩ := hw
        refine r_icmp_same hC 1443 dL_law_1402 (by decide) o313 ?_
        refine r_iinc hC dL_law_1443 rfl (by decide) ?_
        refine r_goto hC 18 dL_law_1446 (by decide) ?_
        exact r_subk (hX18 _ _ hw) ⟨rfl, rfl, rfl, rfl, trivial⟩
      | 30, _ =>
        refine ⟨_, 1407, rfl, by decide, ?_⟩
        have hw := h30 (by omega)
        refine r_aload_n hC dL_law_1407 rfl rfl ?_
        refine r_callV hC (d_S_fault hw) rfl kC11_fault kmL_148 kI11_fault kS11_fault kN11 dd_11_fault ⟨Nat.le_of_ble_eq_true rfl, Nat.le_of_ble_eq_true rfl⟩ rfl (Nat.le_of_ble_eq_true rfl) dL_law_1408 (fun r M' hp => ?_)
        obtain ⟨rfl, a314, rfl, hw⟩ := hp
        try dsimp only at hw
        refine r_aload_n hC dL_law_1411 rfl rfl ?_
        refine r_callV hC (d_m_fault hw) rfl kC12_fault kmL_151 kI12_fault kS12_fault kN12 dd_12_fault ⟨Nat.le_of_ble_eq_true rfl, Nat.le_of_ble_eq_true rfl⟩ rfl (Nat.le_of_ble_eq_true rfl) dL_law_1412 (fun r M' hp => ?_)
        obtain ⟨rfl, a315, rfl, hw⟩ := hp
        try dsimp only at hw
        obtain ⟨o316, hw⟩ := hw
        refine r_icmp_same hC 1443 dL_law_1415 (by decide) o316 ?_
        refine r_iinc hC dL_law_1443 rfl (by decide) ?_
        refine r_goto hC 18 dL_law_1446 (by decide) ?_
        exact r_subk (hX18 _ _ hw) ⟨rfl, rfl, rfl, rfl, trivial⟩
      | 31, _ =>
        refine ⟨_, 1420, rfl, by decide, ?_⟩
        have hw := h31 (by omega)
        refine r_aload_n hC dL_law_1420 rfl rfl ?_
        refine r_aload_n hC dL_law_1421 rfl rfl ?_
        refine r_iload_n hC dL_law_1422 rfl rfl ?_
        refine r_iconst hC dL_law_1423 ?_
        refine r_iadd hC dL_law_1424 ?_
        obtain ⟨o317, hw⟩ := hw
        refine r_sld hC hX o317.1 o317.2 dL_law_1425 ?_
        refine r_callV hC (d_S_rule hw) rfl kC11_rule kmL_152 kI11_rule kS11_rule kN11 dd_11_rule ⟨Nat.le_of_ble_eq_true rfl, Nat.le_of_ble_eq_true rfl⟩ rfl (Nat.le_of_ble_eq_true rfl) dL_law_1426 (fun r M' hp => ?_)
        obtain ⟨rfl, a318, rfl, hw⟩ := hp
        try dsimp only at hw
        refine r_aload_n hC dL_law_1429 rfl rfl ?_
        refine r_aload_n hC dL_law_1430 rfl rfl ?_
        refine r_iload_n hC dL_law_1431 rfl rfl ?_
        refine r_iconst hC dL_law_1432 ?_
        refine r_iadd hC dL_law_1433 ?_
        obtain ⟨o319, hw⟩ := hw
        refine r_sld hC hX o319.1 o319.2 dL_law_1434 ?_
        refine r_callV hC (d_m_rule hw) rfl kC12_rule kmL_155 kI12_rule kS12_rule kN12 dd_12_rule ⟨Nat.le_of_ble_eq_true rfl, Nat.le_of_ble_eq_true rfl⟩ rfl (Nat.le_of_ble_eq_true rfl) dL_law_1435 (fun r M' hp => ?_)
        obtain ⟨rfl, a320, rfl, hw⟩ := hp
        try dsimp only at hw
        obtain ⟨o321, hw⟩ := hw
        refine r_icmp_same hC 1443 dL_law_1438 (by decide) o321 ?_
        refine r_iinc hC dL_law_1443 rfl (by decide) ?_
        refine r_goto hC 18 dL_law_1446 (by decide) ?_
        exact r_subk (hX18 _ _ hw) ⟨rfl, rfl, rfl, rfl, trivial⟩
      | n + 32, h => exact absurd h (by omega)
def w_law_law_L0 (n : Nat) (sx : Int → Int) (Q : Int → Mem → Prop) (x3 : Int) (M : Mem) : Prop :=
  ∀ X : Int → Mem → Prop, (∀ (x3 : Int) (M : Mem), w_law_law_B0 n sx Q X x3 M → X x3 M) → X x3 M
set_option maxRecDepth 100000 in
set_option maxHeartbeats 4000000 in
theorem s_law_law_L0 {n : Nat} {sx : Int → Int} {Q : Int → Mem → Prop} {x3 : Int} {M : Mem} (hC : rC p R s m args meth c cells slots D aC ad 4 cL_law RL 11 266 (some .boolean)) (hX : scr ad n sx s) (hQ : ∀ (pc : Nat) (L : List (Nat × RV)) (z : Int) (M : Mem), decode cL_law pc = .ok (.ireturn, 1) → 0 ≤ z → z ≤ 1 → Q z M → rG p l e R s m args below meth c cells slots Qs D aC ad 4 pc L [vI z] M) (hw : w_law_law_L0 n sx Q x3 M) : rG p l e R s m args below meth c cells slots Qs D aC ad 4 18 [(0, vR 250), (1, vR 0), (2, vR 12), (3, vI x3)] [] M := by
  unfold w_law_law_L0 at hw
  exact hw (fun x3 M => rG p l e R s m args below meth c cells slots Qs D aC ad 4 18 [(0, vR 250), (1, vR 0), (2, vR 12), (3, vI x3)] [] M) (fun x3 M hb => s_law_law_B0 hC hX hQ (fun _ _ h => h) hb)
end
