set_option maxRecDepth 100000 in
set_option maxHeartbeats 4000000 in
theorem kOi : Cond.instanceMethod Lib.objectInit ∈ lw_gd := gs_1 27 (by decide +kernel) (by decide +kernel)
set_option maxRecDepth 100000 in
set_option maxHeartbeats 4000000 in
theorem kOc : Cond.code Lib.objectInit ⟨#[0xb1]⟩ 1 none ∈ lw_gd := gs_1 28 (by decide +kernel) (by decide +kernel)
set_option maxRecDepth 100000 in
set_option maxHeartbeats 4000000 in
theorem kA_int : Cond.arrayClass (newarray.typeOf .int) ∈ lw_gd := gs_1 79 (by decide +kernel) (by decide +kernel)
set_option maxRecDepth 100000 in
set_option maxHeartbeats 4000000 in
theorem kA_boolean : Cond.arrayClass (newarray.typeOf .boolean) ∈ lw_gd := gs_6 78 (by decide +kernel) (by decide +kernel)
set_option maxRecDepth 100000 in
set_option maxHeartbeats 4000000 in
theorem kA_long : Cond.arrayClass (newarray.typeOf .long) ∈ lw_gd := gs_6 79 (by decide +kernel) (by decide +kernel)
def gmem (n : Int) : Mem := fun h => if h = 19 then (fun j => if 0 ≤ j ∧ j < n then 500 else 0) else fun _ => 0
def cm0 : Mem := fun _ _ => 0
def cm1 : Mem := gmem 6
def rmem (n : Int) : Mem := fun h => if h = 30 then (fun j => if 0 ≤ j ∧ j < n then fiS j else 0) else cm1 h
def cm2 : Mem := rmem 25
def cm3 : Mem := mset cm2 11 3 (-1)
theorem gmem_0 : gmem 0 = cm0 := by
  funext h j
  unfold gmem cm0
  by_cases e : h = 19
  · rw [if_pos e]; exact if_neg (by omega)
  · rw [if_neg e]
theorem gmem_s {i : Int} (hi : 0 ≤ i) : mset (gmem i) 19 i 500 = gmem (i + 1) := by
  funext h j
  unfold mset gmem
  by_cases e : h = 19
  · rw [if_pos e, if_pos e]
    show (if j = i then (500 : Int) else if 0 ≤ j ∧ j < i then 500 else 0) = if 0 ≤ j ∧ j < i + 1 then 500 else 0
    by_cases e2 : j = i
    · rw [if_pos e2, if_pos (by omega)]
    · rw [if_neg e2]
      by_cases e3 : 0 ≤ j ∧ j < i
      · rw [if_pos e3, if_pos (by omega)]
      · rw [if_neg e3, if_neg (by omega)]
  · rw [if_neg e, if_neg e, if_neg e]
theorem rmem_0 : rmem 0 = cm1 := by
  funext h j
  unfold rmem
  by_cases e : h = 30
  · rw [if_pos e, e]; exact if_neg (by omega)
  · rw [if_neg e]
theorem rmem_s {i : Int} (hi : 0 ≤ i) : mset (rmem i) 30 i (fiS i) = rmem (i + 1) := by
  funext h j
  unfold mset rmem
  by_cases e : h = 30
  · rw [if_pos e, if_pos e]
    show (if j = i then fiS i else if 0 ≤ j ∧ j < i then fiS j else 0) = if 0 ≤ j ∧ j < i + 1 then fiS j else 0
    by_cases e2 : j = i
    · rw [if_pos e2, if_pos (by omega), e2]
    · rw [if_neg e2]
      by_cases e3 : 0 ≤ j ∧ j < i
      · rw [if_pos e3, if_pos (by omega)]
      · rw [if_neg e3, if_neg (by omega)]
  · rw [if_neg e, if_neg e, if_neg e]
section CK
variable {l : Launch} {D : va_G} {aC : Nat → ClassId} {n0 f0 : Nat} {M : Mem} {hs : List Nat} {zl : List (Nat × Nat)}
set_option maxRecDepth 100000 in
set_option maxHeartbeats 4000000 in
theorem mk_entry {x : Int} (h1 : 0 ≤ x) (h2 : x < 25) : Mk l D aC n0 f0 yX3_entry cX3_entry 1 (some .int) 0 0 0 0 [vI x] (some (vI (if 20 ≤ x then x - 20 + 5 else x % 5))) hs zl M hs zl M := by
  refine Mk.of (by decide) (by simp [wid, isJ]) fun ad0 p e R s m args below meth c h201 hC hN => ?_
  refine c_iload_n hC dX3_entry_0 rfl rfl ?_
  refine c_bipush hC dX3_entry_1 (by decide) ?_
  refine c_icmp_ge hC 12 dX3_entry_3 rfl (by omega) (by omega) (by decide) (by decide) (fun h => ?_) (fun h => ?_)
  · refine c_iload_n hC dX3_entry_12 rfl rfl ?_
    refine c_bipush hC dX3_entry_13 (by decide) ?_
    refine c_isub hC dX3_entry_15 ?_
    refine c_iconst hC dX3_entry_16 ?_
    refine c_iadd hC dX3_entry_17 ?_
    rw [if_pos h]
    exact c_iret hC dX3_entry_18
  · refine c_iload_n hC dX3_entry_6 rfl rfl ?_
    refine c_iconst hC dX3_entry_7 ?_
    refine c_irem hC dX3_entry_8 (by omega) (by omega) (by decide) (by decide) ?_
    refine c_goto hC 18 dX3_entry_9 rfl ?_
    rw [if_neg h]
    exact c_iret hC dX3_entry_18
set_option maxRecDepth 100000 in
set_option maxHeartbeats 4000000 in
theorem mk_first {x : Nat} (h2 : x < 25) : Mk l D aC n0 f0 yX3_first cX3_first 1 (some .int) 1 20 0 0 [vI x] (some (vI (fiS x))) hs zl M hs zl M := by
  have hx : (0 : Int) ≤ x ∧ (x : Int) < 25 := by omega
  have hb : 0 ≤ (if (20 : Int) ≤ x then (x : Int) - 20 + 5 else (x : Int) % 5) ∧ (if (20 : Int) ≤ x then (x : Int) - 20 + 5 else (x : Int) % 5) < 10 := by
    split <;> omega
  refine Mk.of (by decide) (by simp [wid, isJ]) fun ad0 p e R s m args below meth c h201 hC hN => ?_
  refine c_gets hC kZ_FIRST dX3_first_0 (by simp) h201 ?_
  refine c_iload_n hC dX3_first_3 rfl rfl ?_
  refine c_callS hC (mk_entry hx.1 hx.2) kC3_entry km3_20 kT3_entry kN3 dd_3_entry ⟨by decide, by decide⟩ (by decide) ⟨Nat.le_refl _, Nat.le_refl _⟩ (by simp) h201 (fun h hh => hh) rfl rfl dX3_first_4 ?_
  refine c_stald hC hb.1 hb.2 dX3_first_7 (by simp) h201 ?_
  rw [(tabS x h2).1]
  exact c_iret hC dX3_first_8
set_option maxRecDepth 100000 in
set_option maxHeartbeats 4000000 in
theorem kO0 : Cond.methodLink RX0 3 Lib.objectInit ∈ lw_gd := gs_1 40 (by decide +kernel) (by decide +kernel)
set_option maxRecDepth 100000 in
set_option maxHeartbeats 4000000 in
theorem kin0 : Cond.instantiable (cnm 0) (nfd 0) ∈ lw_gd := gs_1 36 (by decide +kernel) (by decide +kernel)
set_option maxRecDepth 100000 in
set_option maxHeartbeats 4000000 in
theorem ddi0 : yX0_init.cls ≠ "java/lang/invoke/MethodHandle" ∧ yX0_init.cls ≠ "java/lang/invoke/VarHandle" ∧ (parseMethodDescriptor yX0_init.desc).map (fun d => d.parameters.length) = some 0 := by decide +kernel
set_option maxRecDepth 100000 in
set_option maxHeartbeats 4000000 in
theorem kO1 : Cond.methodLink RX1 3 Lib.objectInit ∈ lw_gd := gs_1 233 (by decide +kernel) (by decide +kernel)
set_option maxRecDepth 100000 in
set_option maxHeartbeats 4000000 in
theorem kin1 : Cond.instantiable (cnm 1) (nfd 1) ∈ lw_gd := gs_1 229 (by decide +kernel) (by decide +kernel)
set_option maxRecDepth 100000 in
set_option maxHeartbeats 4000000 in
theorem ddi1 : yX1_init.cls ≠ "java/lang/invoke/MethodHandle" ∧ yX1_init.cls ≠ "java/lang/invoke/VarHandle" ∧ (parseMethodDescriptor yX1_init.desc).map (fun d => d.parameters.length) = some 0 := by decide +kernel
set_option maxRecDepth 100000 in
set_option maxHeartbeats 4000000 in
theorem kO2 : Cond.methodLink RX2 3 Lib.objectInit ∈ lw_gd := gs_2 146 (by decide +kernel) (by decide +kernel)
set_option maxRecDepth 100000 in
set_option maxHeartbeats 4000000 in
theorem kin2 : Cond.instantiable (cnm 2) (nfd 2) ∈ lw_gd := gs_2 142 (by decide +kernel) (by decide +kernel)
set_option maxRecDepth 100000 in
set_option maxHeartbeats 4000000 in
theorem ddi2 : yX2_init.cls ≠ "java/lang/invoke/MethodHandle" ∧ yX2_init.cls ≠ "java/lang/invoke/VarHandle" ∧ (parseMethodDescriptor yX2_init.desc).map (fun d => d.parameters.length) = some 0 := by decide +kernel
set_option maxRecDepth 100000 in
set_option maxHeartbeats 4000000 in
theorem kO3 : Cond.methodLink RX3 1 Lib.objectInit ∈ lw_gd := gs_1 110 (by decide +kernel) (by decide +kernel)
set_option maxRecDepth 100000 in
set_option maxHeartbeats 4000000 in
theorem kin3 : Cond.instantiable (cnm 3) (nfd 3) ∈ lw_gd := gs_1 106 (by decide +kernel) (by decide +kernel)
set_option maxRecDepth 100000 in
set_option maxHeartbeats 4000000 in
theorem ddi3 : yX3_init.cls ≠ "java/lang/invoke/MethodHandle" ∧ yX3_init.cls ≠ "java/lang/invoke/VarHandle" ∧ (parseMethodDescriptor yX3_init.desc).map (fun d => d.parameters.length) = some 0 := by decide +kernel
set_option maxRecDepth 100000 in
set_option maxHeartbeats 4000000 in
theorem kO4 : Cond.methodLink RX4 3 Lib.objectInit ∈ lw_gd := gs_1 85 (by decide +kernel) (by decide +kernel)
set_option maxRecDepth 100000 in
set_option maxHeartbeats 4000000 in
theorem kin4 : Cond.instantiable (cnm 4) (nfd 4) ∈ lw_gd := gs_1 81 (by decide +kernel) (by decide +kernel)
set_option maxRecDepth 100000 in
set_option maxHeartbeats 4000000 in
theorem ddi4 : yX4_init.cls ≠ "java/lang/invoke/MethodHandle" ∧ yX4_init.cls ≠ "java/lang/invoke/VarHandle" ∧ (parseMethodDescriptor yX4_init.desc).map (fun d => d.parameters.length) = some 0 := by decide +kernel
set_option maxRecDepth 100000 in
set_option maxHeartbeats 4000000 in
theorem kO5 : Cond.methodLink RX5 3 Lib.objectInit ∈ lw_gd := gs_2 108 (by decide +kernel) (by decide +kernel)
set_option maxRecDepth 100000 in
set_option maxHeartbeats 4000000 in
theorem kin5 : Cond.instantiable (cnm 5) (nfd 5) ∈ lw_gd := gs_2 104 (by decide +kernel) (by decide +kernel)
set_option maxRecDepth 100000 in
set_option maxHeartbeats 4000000 in
theorem ddi5 : yX5_init.cls ≠ "java/lang/invoke/MethodHandle" ∧ yX5_init.cls ≠ "java/lang/invoke/VarHandle" ∧ (parseMethodDescriptor yX5_init.desc).map (fun d => d.parameters.length) = some 0 := by decide +kernel
set_option maxRecDepth 100000 in
set_option maxHeartbeats 4000000 in
theorem kO6 : Cond.methodLink RX6 1 Lib.objectInit ∈ lw_gd := gs_2 70 (by decide +kernel) (by decide +kernel)
set_option maxRecDepth 100000 in
set_option maxHeartbeats 4000000 in
theorem kin6 : Cond.instantiable (cnm 6) (nfd 6) ∈ lw_gd := gs_2 66 (by decide +kernel) (by decide +kernel)
set_option maxRecDepth 100000 in
set_option maxHeartbeats 4000000 in
theorem ddi6 : yX6_init.cls ≠ "java/lang/invoke/MethodHandle" ∧ yX6_init.cls ≠ "java/lang/invoke/VarHandle" ∧ (parseMethodDescriptor yX6_init.desc).map (fun d => d.parameters.length) = some 0 := by decide +kernel
set_option maxRecDepth 100000 in
set_option maxHeartbeats 4000000 in
theorem kO7 : Cond.methodLink RX7 3 Lib.objectInit ∈ lw_gd := gs_2 16 (by decide +kernel) (by decide +kernel)
set_option maxRecDepth 100000 in
set_option maxHeartbeats 4000000 in
theorem kin7 : Cond.instantiable (cnm 7) (nfd 7) ∈ lw_gd := gs_2 12 (by decide +kernel) (by decide +kernel)
set_option maxRecDepth 100000 in
set_option maxHeartbeats 4000000 in
theorem ddi7 : yX7_init.cls ≠ "java/lang/invoke/MethodHandle" ∧ yX7_init.cls ≠ "java/lang/invoke/VarHandle" ∧ (parseMethodDescriptor yX7_init.desc).map (fun d => d.parameters.length) = some 0 := by decide +kernel
set_option maxRecDepth 100000 in
set_option maxHeartbeats 4000000 in
theorem kO8 : Cond.methodLink RX8 3 Lib.objectInit ∈ lw_gd := gs_1 34 (by decide +kernel) (by decide +kernel)
set_option maxRecDepth 100000 in
set_option maxHeartbeats 4000000 in
theorem kin8 : Cond.instantiable (cnm 8) (nfd 8) ∈ lw_gd := gs_1 30 (by decide +kernel) (by decide +kernel)
set_option maxRecDepth 100000 in
set_option maxHeartbeats 4000000 in
theorem ddi8 : yX8_init.cls ≠ "java/lang/invoke/MethodHandle" ∧ yX8_init.cls ≠ "java/lang/invoke/VarHandle" ∧ (parseMethodDescriptor yX8_init.desc).map (fun d => d.parameters.length) = some 0 := by decide +kernel
set_option maxRecDepth 100000 in
set_option maxHeartbeats 4000000 in
theorem kO9 : Cond.methodLink RX9 3 Lib.objectInit ∈ lw_gd := gs_1 192 (by decide +kernel) (by decide +kernel)
set_option maxRecDepth 100000 in
set_option maxHeartbeats 4000000 in
theorem kin9 : Cond.instantiable (cnm 9) (nfd 9) ∈ lw_gd := gs_1 188 (by decide +kernel) (by decide +kernel)
set_option maxRecDepth 100000 in
set_option maxHeartbeats 4000000 in
theorem ddi9 : yX9_init.cls ≠ "java/lang/invoke/MethodHandle" ∧ yX9_init.cls ≠ "java/lang/invoke/VarHandle" ∧ (parseMethodDescriptor yX9_init.desc).map (fun d => d.parameters.length) = some 0 := by decide +kernel
set_option maxRecDepth 100000 in
set_option maxHeartbeats 4000000 in
theorem kO10 : Cond.methodLink RX10 3 Lib.objectInit ∈ lw_gd := gs_2 43 (by decide +kernel) (by decide +kernel)
set_option maxRecDepth 100000 in
set_option maxHeartbeats 4000000 in
theorem kin10 : Cond.instantiable (cnm 10) (nfd 10) ∈ lw_gd := gs_2 39 (by decide +kernel) (by decide +kernel)
set_option maxRecDepth 100000 in
set_option maxHeartbeats 4000000 in
theorem ddi10 : yX10_init.cls ≠ "java/lang/invoke/MethodHandle" ∧ yX10_init.cls ≠ "java/lang/invoke/VarHandle" ∧ (parseMethodDescriptor yX10_init.desc).map (fun d => d.parameters.length) = some 0 := by decide +kernel
set_option maxRecDepth 100000 in
set_option maxHeartbeats 4000000 in
theorem kO11 : Cond.methodLink RX11 1 Lib.objectInit ∈ lw_gd := gs_1 26 (by decide +kernel) (by decide +kernel)
set_option maxRecDepth 100000 in
set_option maxHeartbeats 4000000 in
theorem kin11 : Cond.instantiable (cnm 11) (nfd 11) ∈ lw_gd := gs_1 22 (by decide +kernel) (by decide +kernel)
set_option maxRecDepth 100000 in
set_option maxHeartbeats 4000000 in
theorem ddi11 : yX11_init.cls ≠ "java/lang/invoke/MethodHandle" ∧ yX11_init.cls ≠ "java/lang/invoke/VarHandle" ∧ (parseMethodDescriptor yX11_init.desc).map (fun d => d.parameters.length) = some 0 := by decide +kernel
set_option maxRecDepth 100000 in
set_option maxHeartbeats 4000000 in
theorem kO12 : Cond.methodLink RX12 1 Lib.objectInit ∈ lw_gd := gs_5 106 (by decide +kernel) (by decide +kernel)
set_option maxRecDepth 100000 in
set_option maxHeartbeats 4000000 in
theorem kin12 : Cond.instantiable (cnm 12) (nfd 12) ∈ lw_gd := gs_5 102 (by decide +kernel) (by decide +kernel)
set_option maxRecDepth 100000 in
set_option maxHeartbeats 4000000 in
theorem ddi12 : yX12_init.cls ≠ "java/lang/invoke/MethodHandle" ∧ yX12_init.cls ≠ "java/lang/invoke/VarHandle" ∧ (parseMethodDescriptor yX12_init.desc).map (fun d => d.parameters.length) = some 0 := by decide +kernel
set_option maxRecDepth 100000 in
set_option maxHeartbeats 4000000 in
theorem kclL_7 : Cond.classLink RL 7 (cnm 11) ∈ lw_gd := gs_1 21 (by decide +kernel) (by decide +kernel)
set_option maxRecDepth 100000 in
set_option maxHeartbeats 4000000 in
theorem kclX11_7 : Cond.classLink RX11 7 (cnm 8) ∈ lw_gd := gs_1 29 (by decide +kernel) (by decide +kernel)
set_option maxRecDepth 100000 in
set_option maxHeartbeats 4000000 in
theorem kclX8_9 : Cond.classLink RX8 9 (cnm 0) ∈ lw_gd := gs_1 35 (by decide +kernel) (by decide +kernel)
set_option maxRecDepth 100000 in
set_option maxHeartbeats 4000000 in
theorem kclX8_18 : Cond.classLink RX8 18 (cnm 4) ∈ lw_gd := gs_1 80 (by decide +kernel) (by decide +kernel)
set_option maxRecDepth 100000 in
set_option maxHeartbeats 4000000 in
theorem kclX8_25 : Cond.classLink RX8 25 (cnm 3) ∈ lw_gd := gs_1 105 (by decide +kernel) (by decide +kernel)
set_option maxRecDepth 100000 in
set_option maxHeartbeats 4000000 in
theorem kclX11_31 : Cond.classLink RX11 31 (cnm 9) ∈ lw_gd := gs_1 187 (by decide +kernel) (by decide +kernel)
set_option maxRecDepth 100000 in
set_option maxHeartbeats 4000000 in
theorem kclX11_38 : Cond.classLink RX11 38 (cnm 1) ∈ lw_gd := gs_1 228 (by decide +kernel) (by decide +kernel)
set_option maxRecDepth 100000 in
set_option maxHeartbeats 4000000 in
theorem kclX11_45 : Cond.classLink RX11 45 (cnm 7) ∈ lw_gd := gs_2 11 (by decide +kernel) (by decide +kernel)
set_option maxRecDepth 100000 in
set_option maxHeartbeats 4000000 in
theorem kclX11_52 : Cond.classLink RX11 52 (cnm 10) ∈ lw_gd := gs_2 38 (by decide +kernel) (by decide +kernel)
set_option maxRecDepth 100000 in
set_option maxHeartbeats 4000000 in
theorem kclX11_59 : Cond.classLink RX11 59 (cnm 6) ∈ lw_gd := gs_2 65 (by decide +kernel) (by decide +kernel)
set_option maxRecDepth 100000 in
set_option maxHeartbeats 4000000 in
theorem kclX11_66 : Cond.classLink RX11 66 (cnm 5) ∈ lw_gd := gs_2 103 (by decide +kernel) (by decide +kernel)
set_option maxRecDepth 100000 in
set_option maxHeartbeats 4000000 in
theorem kclX11_73 : Cond.classLink RX11 73 (cnm 2) ∈ lw_gd := gs_2 141 (by decide +kernel) (by decide +kernel)
set_option maxRecDepth 100000 in
set_option maxHeartbeats 4000000 in
theorem kclL_10 : Cond.classLink RL 10 (cnm 12) ∈ lw_gd := gs_5 101 (by decide +kernel) (by decide +kernel)
set_option maxRecDepth 100000 in
set_option maxHeartbeats 4000000 in
theorem mk_0 : Mk l D aC n0 f0 yX0_init cX0_init 2 none 1 20 8 342 [vR 2] none [0, 1, 2] [] cm0 [0, 1, 2, 19, 20, 21, 22, 23, 24, 25, 26] [(2, 7), (2, 6), (2, 5), (2, 4), (2, 3), (2, 2), (2, 1), (2, 0)] cm1 := by
  refine Mk.of (by decide) (by simp [wid, isJ]) fun ad0 p e R s m args below meth c h201 hC hN => ?_
  refine c_sub (L' := [(0, vR 2)]) ?_ ⟨rfl, trivial⟩
  refine c_aload_n hC dX0_init_0 rfl rfl ?_
  refine c_obj (S := []) hC kO0 kOi kOc (by decide) (by decide) dX0_init_1 ?_
  refine c_aload_n hC dX0_init_4 rfl rfl ?_
  refine c_bipush hC dX0_init_5 (by decide) ?_
  refine c_newa (h := 19) (t := 0) (N := 6) (hs' := [0, 1, 2, 19]) (cells' := 1) (slots' := 6) hC kA_int (by decide) rfl rfl (fun _ => rfl) (by decide) (by decide) (by decide +kernel) rfl rfl rfl (by decide) (by decide) dX0_init_7 ?_
  refine c_putF hC hN 0 2 rfl rfl (by decide) kf0_9 rfl rfl dX0_init_9 ?_
  refine c_aload_n hC dX0_init_12 rfl rfl ?_
  refine c_bipush hC dX0_init_13 (by decide) ?_
  refine c_newa (h := 20) (t := 0) (N := 6) (hs' := [0, 1, 2, 19, 20]) (cells' := 2) (slots' := 12) hC kA_int (by decide) rfl rfl (fun _ => rfl) (by decide) (by decide) (by decide +kernel) rfl rfl rfl (by decide) (by decide) dX0_init_15 ?_
  refine c_putF hC hN 1 2 rfl rfl (by decide) kf0_15 rfl rfl dX0_init_17 ?_
  refine c_aload_n hC dX0_init_20 rfl rfl ?_
  refine c_bipush hC dX0_init_21 (by decide) ?_
  refine c_newa (h := 21) (t := 0) (N := 6) (hs' := [0, 1, 2, 19, 20, 21]) (cells' := 3) (slots' := 18) hC kA_int (by decide) rfl rfl (fun _ => rfl) (by decide) (by decide) (by decide +kernel) rfl rfl rfl (by decide) (by decide) dX0_init_23 ?_
  refine c_putF hC hN 2 2 rfl rfl (by decide) kf0_18 rfl rfl dX0_init_25 ?_
  refine c_aload_n hC dX0_init_28 rfl rfl ?_
  refine c_bipush hC dX0_init_29 (by decide) ?_
  refine c_newa (h := 22) (t := 0) (N := 36) (hs' := [0, 1, 2, 19, 20, 21, 22]) (cells' := 4) (slots' := 54) hC kA_int (by decide) rfl rfl (fun _ => rfl) (by decide) (by decide) (by decide +kernel) rfl rfl rfl (by decide) (by decide) dX0_init_31 ?_
  refine c_putF hC hN 3 2 rfl rfl (by decide) kf0_21 rfl rfl dX0_init_33 ?_
  refine c_aload_n hC dX0_init_36 rfl rfl ?_
  refine c_bipush hC dX0_init_37 (by decide) ?_
  refine c_newa (h := 23) (t := 0) (N := 36) (hs' := [0, 1, 2, 19, 20, 21, 22, 23]) (cells' := 5) (slots' := 90) hC kA_int (by decide) rfl rfl (fun _ => rfl) (by decide) (by decide) (by decide +kernel) rfl rfl rfl (by decide) (by decide) dX0_init_39 ?_
  refine c_putF hC hN 4 2 rfl rfl (by decide) kf0_24 rfl rfl dX0_init_41 ?_
  refine c_aload_n hC dX0_init_44 rfl rfl ?_
  refine c_bipush hC dX0_init_45 (by decide) ?_
  refine c_newa (h := 24) (t := 0) (N := 36) (hs' := [0, 1, 2, 19, 20, 21, 22, 23, 24]) (cells' := 6) (slots' := 126) hC kA_int (by decide) rfl rfl (fun _ => rfl) (by decide) (by decide) (by decide +kernel) rfl rfl rfl (by decide) (by decide) dX0_init_47 ?_
  refine c_putF hC hN 5 2 rfl rfl (by decide) kf0_27 rfl rfl dX0_init_49 ?_
  refine c_aload_n hC dX0_init_52 rfl rfl ?_
  refine c_bipush hC dX0_init_53 (by decide) ?_
  refine c_newa (h := 25) (t := 0) (N := 108) (hs' := [0, 1, 2, 19, 20, 21, 22, 23, 24, 25]) (cells' := 7) (slots' := 234) hC kA_int (by decide) rfl rfl (fun _ => rfl) (by decide) (by decide) (by decide +kernel) rfl rfl rfl (by decide) (by decide) dX0_init_55 ?_
  refine c_putF hC hN 6 2 rfl rfl (by decide) kf0_30 rfl rfl dX0_init_57 ?_
  refine c_aload_n hC dX0_init_60 rfl rfl ?_
  refine c_bipush hC dX0_init_61 (by decide) ?_
  refine c_newa (h := 26) (t := 0) (N := 108) (hs' := [0, 1, 2, 19, 20, 21, 22, 23, 24, 25, 26]) (cells' := 8) (slots' := 342) hC kA_int (by decide) rfl rfl (fun _ => rfl) (by decide) (by decide) (by decide +kernel) rfl rfl rfl (by decide) (by decide) dX0_init_63 ?_
  refine c_putF hC hN 7 2 rfl rfl (by decide) kf0_33 rfl rfl dX0_init_65 ?_
  refine c_iconst hC dX0_init_68 ?_
  refine c_istore_n hC dX0_init_69 rfl (by decide) ?_
  have key : ∀ k i : Nat, i + k = 6 → cG p l e R s m args below meth c 8 342 (MQ below (mQ D aC n0 ad0 (201 :: [0, 1, 2]) none [0, 1, 2, 19, 20, 21, 22, 23, 24, 25, 26] [(2, 7), (2, 6), (2, 5), (2, 4), (2, 3), (2, 2), (2, 1), (2, 0)] cm1) args s 8 342 (nA n0)) D aC n0 ad0 (201 :: [0, 1, 2]) 2 [0, 1, 2, 19, 20, 21, 22, 23, 24, 25, 26] [(2, 7), (2, 6), (2, 5), (2, 4), (2, 3), (2, 2), (2, 1), (2, 0)] 70 [(0, vR 2), (1, vI i)] [] (gmem i) := by
    intro k
    induction k with
    | zero =>
      intro i hi
      have e6 : i = 6 := by omega
      subst e6
      refine c_iload_n hC dX0_init_70 rfl rfl ?_
      refine c_bipush hC dX0_init_71 (by decide) ?_
      refine c_icmp_ge hC 91 dX0_init_73 rfl (by decide) (by decide) (by decide) (by decide) (fun h => ?_) (fun h => absurd (by decide) h)
      exact c_vret hC dX0_init_91 (fun _ => rfl)
    | succ k ih =>
      intro i hi
      refine c_iload_n hC dX0_init_70 rfl rfl ?_
      refine c_bipush hC dX0_init_71 (by decide) ?_
      refine c_icmp_ge hC 91 dX0_init_73 rfl (by omega) (by omega) (by decide) (by decide) (fun h => absurd h (by omega)) (fun h => ?_)
      refine c_aload_n hC dX0_init_76 rfl rfl ?_
      refine c_getR (tg := 19) hC 0 2 rfl rfl (by decide) kf0_9 rfl (by decide +kernel) dX0_init_77 ?_
      refine c_iload_n hC dX0_init_80 rfl rfl ?_
      refine c_sipush hC dX0_init_81 (by decide) ?_
      refine c_iast hC (n := 6) 3 rfl rfl (by omega) (by omega) (by decide) dX0_init_84 ?_
      refine c_iinc hC dX0_init_85 rfl (by decide) ?_
      refine c_goto hC 70 dX0_init_88 rfl ?_
      rw [gmem_s (by omega)]
      exact c_sub (ih (i + 1) (by omega)) ⟨rfl, rfl, trivial⟩
  rw [← gmem_0]
  exact c_sub (key 6 0 rfl) ⟨rfl, rfl, trivial⟩
set_option maxRecDepth 100000 in
set_option maxHeartbeats 4000000 in
theorem mk_4 : Mk l D aC n0 f0 yX4_init cX4_init 1 none 1 20 3 192 [vR 3] none [0, 1, 2, 19, 20, 21, 22, 23, 24, 25, 26, 3] [(1, 0), (2, 7), (2, 6), (2, 5), (2, 4), (2, 3), (2, 2), (2, 1), (2, 0)] cm1 [0, 1, 2, 19, 20, 21, 22, 23, 24, 25, 26, 3, 27, 28, 29] [(3, 2), (3, 1), (3, 0), (1, 0), (2, 7), (2, 6), (2, 5), (2, 4), (2, 3), (2, 2), (2, 1), (2, 0)] cm1 := by
  refine Mk.of (by decide) (by simp [wid, isJ]) fun ad0 p e R s m args below meth c h201 hC hN => ?_
  refine c_sub (L' := [(0, vR 3)]) ?_ ⟨rfl, trivial⟩
  refine c_aload_n hC dX4_init_0 rfl rfl ?_
  refine c_obj (S := []) hC kO4 kOi kOc (by decide) (by decide) dX4_init_1 ?_
  refine c_aload_n hC dX4_init_4 rfl rfl ?_
  refine c_bipush hC dX4_init_5 (by decide) ?_
  refine c_newa (h := 27) (t := 0) (N := 6) (hs' := [0, 1, 2, 19, 20, 21, 22, 23, 24, 25, 26, 3, 27]) (cells' := 1) (slots' := 6) hC kA_int (by decide) rfl rfl (fun _ => rfl) (by decide) (by decide) (by decide +kernel) rfl rfl rfl (by decide) (by decide) dX4_init_7 ?_
  refine c_putF hC hN 0 11 rfl rfl (by decide) kf4_9 rfl rfl dX4_init_9 ?_
  refine c_aload_n hC dX4_init_12 rfl rfl ?_
  refine c_bipush hC dX4_init_13 (by decide) ?_
  refine c_newa (h := 28) (t := 0) (N := 6) (hs' := [0, 1, 2, 19, 20, 21, 22, 23, 24, 25, 26, 3, 27, 28]) (cells' := 2) (slots' := 12) hC kA_int (by decide) rfl rfl (fun _ => rfl) (by decide) (by decide) (by decide +kernel) rfl rfl rfl (by decide) (by decide) dX4_init_15 ?_
  refine c_putF hC hN 1 11 rfl rfl (by decide) kf4_15 rfl rfl dX4_init_17 ?_
  refine c_aload_n hC dX4_init_20 rfl rfl ?_
  refine c_sipush hC dX4_init_21 (by decide) ?_
  refine c_newa (h := 29) (t := 0) (N := 180) (hs' := [0, 1, 2, 19, 20, 21, 22, 23, 24, 25, 26, 3, 27, 28, 29]) (cells' := 3) (slots' := 192) hC kA_int (by decide) rfl rfl (fun _ => rfl) (by decide) (by decide) (by decide +kernel) rfl rfl rfl (by decide) (by decide) dX4_init_24 ?_
  refine c_putF hC hN 2 11 rfl rfl (by decide) kf4_18 rfl rfl dX4_init_26 ?_
  exact c_vret hC dX4_init_29 (fun _ => rfl)
set_option maxRecDepth 100000 in
set_option maxHeartbeats 4000000 in
theorem mk_3 : Mk l D aC n0 f0 yX3_init cX3_init 2 none 2 40 1 25 [vR 4] none [0, 1, 2, 19, 20, 21, 22, 23, 24, 25, 26, 3, 27, 28, 29, 4] [(1, 1), (3, 2), (3, 1), (3, 0), (1, 0), (2, 7), (2, 6), (2, 5), (2, 4), (2, 3), (2, 2), (2, 1), (2, 0)] cm1 [0, 1, 2, 19, 20, 21, 22, 23, 24, 25, 26, 3, 27, 28, 29, 4, 30] [(4, 0), (1, 1), (3, 2), (3, 1), (3, 0), (1, 0), (2, 7), (2, 6), (2, 5), (2, 4), (2, 3), (2, 2), (2, 1), (2, 0)] cm2 := by
  refine Mk.of (by decide) (by simp [wid, isJ]) fun ad0 p e R s m args below meth c h201 hC hN => ?_
  refine c_sub (L' := [(0, vR 4)]) ?_ ⟨rfl, trivial⟩
  refine c_aload_n hC dX3_init_0 rfl rfl ?_
  refine c_obj (S := []) hC kO3 kOi kOc (by decide) (by decide) dX3_init_1 ?_
  refine c_aload_n hC dX3_init_4 rfl rfl ?_
  refine c_bipush hC dX3_init_5 (by decide) ?_
  refine c_newa (h := 30) (t := 0) (N := 25) (hs' := [0, 1, 2, 19, 20, 21, 22, 23, 24, 25, 26, 3, 27, 28, 29, 4, 30]) (cells' := 1) (slots' := 25) hC kA_int (by decide) rfl rfl (fun _ => rfl) (by decide) (by decide) (by decide +kernel) rfl rfl rfl (by decide) (by decide) dX3_init_7 ?_
  refine c_putF hC hN 0 15 rfl rfl (by decide) kf3_9 rfl rfl dX3_init_9 ?_
  refine c_iconst hC dX3_init_12 ?_
  refine c_istore_n hC dX3_init_13 rfl (by decide) ?_
  have key : ∀ k i : Nat, i + k = 25 → cG p l e R s m args below meth c 1 25 (MQ below (mQ D aC n0 ad0 (201 :: [0, 1, 2, 19, 20, 21, 22, 23, 24, 25, 26, 3, 27, 28, 29, 4]) none [0, 1, 2, 19, 20, 21, 22, 23, 24, 25, 26, 3, 27, 28, 29, 4, 30] [(4, 0), (1, 1), (3, 2), (3, 1), (3, 0), (1, 0), (2, 7), (2, 6), (2, 5), (2, 4), (2, 3), (2, 2), (2, 1), (2, 0)] cm2) args s 1 25 (nA n0)) D aC n0 ad0 (201 :: [0, 1, 2, 19, 20, 21, 22, 23, 24, 25, 26, 3, 27, 28, 29, 4]) 2 [0, 1, 2, 19, 20, 21, 22, 23, 24, 25, 26, 3, 27, 28, 29, 4, 30] [(4, 0), (1, 1), (3, 2), (3, 1), (3, 0), (1, 0), (2, 7), (2, 6), (2, 5), (2, 4), (2, 3), (2, 2), (2, 1), (2, 0)] 14 [(0, vR 4), (1, vI i)] [] (rmem i) := by
    intro k
    induction k with
    | zero =>
      intro i hi
      have e6 : i = 25 := by omega
      subst e6
      refine c_iload_n hC dX3_init_14 rfl rfl ?_
      refine c_bipush hC dX3_init_15 (by decide) ?_
      refine c_icmp_ge hC 36 dX3_init_17 rfl (by decide) (by decide) (by decide) (by decide) (fun h => ?_) (fun h => absurd (by decide) h)
      exact c_vret hC dX3_init_36 (fun _ => rfl)
    | succ k ih =>
      intro i hi
      refine c_iload_n hC dX3_init_14 rfl rfl ?_
      refine c_bipush hC dX3_init_15 (by decide) ?_
      refine c_icmp_ge hC 36 dX3_init_17 rfl (by omega) (by omega) (by decide) (by decide) (fun h => absurd h (by omega)) (fun h => ?_)
      refine c_aload_n hC dX3_init_20 rfl rfl ?_
      refine c_getR (tg := 30) hC 0 15 rfl rfl (by decide) kf3_9 rfl (by decide +kernel) dX3_init_21 ?_
      refine c_iload_n hC dX3_init_24 rfl rfl ?_
      refine c_iload_n hC dX3_init_25 rfl rfl ?_
      refine c_callS hC (mk_first (by omega)) kC3_first km3_13 kT3_first kN3 dd_3_first ⟨by decide, by decide⟩ (by show 2 ≤ 8; decide) ⟨by decide, by decide⟩ (by decide) h201 (by decide +kernel) rfl rfl dX3_init_26 ?_
      refine c_iast hC (n := 25) 16 rfl rfl (by omega) (by omega) (by decide) dX3_init_29 ?_
      refine c_iinc hC dX3_init_30 rfl (by decide) ?_
      refine c_goto hC 14 dX3_init_33 rfl ?_
      rw [rmem_s (by omega)]
      exact c_sub (ih (i + 1) (by omega)) ⟨rfl, rfl, trivial⟩
  rw [← rmem_0]
  exact c_sub (key 25 0 rfl) ⟨rfl, rfl, trivial⟩
set_option maxRecDepth 100000 in
set_option maxHeartbeats 4000000 in
theorem mk_8 : Mk l D aC n0 f0 yX8_init cX8_init 1 none 3 61 21 1136 [vR 1] none [0, 1] [] cm0 [0, 1, 2, 19, 20, 21, 22, 23, 24, 25, 26, 3, 27, 28, 29, 4, 30, 13, 14, 15, 16, 17, 18] [(1, 8), (1, 7), (1, 6), (1, 5), (1, 4), (1, 3), (1, 2), (4, 0), (1, 1), (3, 2), (3, 1), (3, 0), (1, 0), (2, 7), (2, 6), (2, 5), (2, 4), (2, 3), (2, 2), (2, 1), (2, 0)] cm2 := by
  refine Mk.of (by decide) (by simp [wid, isJ]) fun ad0 p e R s m args below meth c h201 hC hN => ?_
  refine c_sub (L' := [(0, vR 1)]) ?_ ⟨rfl, trivial⟩
  refine c_aload_n hC dX8_init_0 rfl rfl ?_
  refine c_obj (S := []) hC kO8 kOi kOc (by decide) (by decide) dX8_init_1 ?_
  refine c_aload_n hC dX8_init_4 rfl rfl ?_
  refine c_make (gg := 2) (ci := 0) (cells' := 9) (slots' := 350) hC mk_0 kC0_init (Or.inl km8_11) kI0_init kN0 kclX8_9 kin0 rfl rfl ddi0 ⟨by decide, by decide⟩ (by decide) rfl (fun _ => rfl) (by decide +kernel) rfl rfl ⟨by decide, by decide⟩ (by decide) h201 (by decide +kernel) (by decide +kernel) (by decide +kernel) dX8_init_5 dX8_init_8 dX8_init_9 (by decide) ?_
  refine c_putF hC hN 0 1 rfl rfl (by decide) kf8_12 rfl rfl dX8_init_12 ?_
  refine c_aload_n hC dX8_init_15 rfl rfl ?_
  refine c_make (gg := 3) (ci := 4) (cells' := 13) (slots' := 546) hC mk_4 kC4_init (Or.inr kn8_20) kI4_init kN4 kclX8_18 kin4 rfl rfl ddi4 ⟨by decide, by decide⟩ (by decide) rfl (fun _ => rfl) (by decide +kernel) rfl rfl ⟨by decide, by decide⟩ (by decide) h201 (by decide +kernel) (by decide +kernel) (by decide +kernel) dX8_init_16 dX8_init_19 dX8_init_20 (by decide) ?_
  refine c_putF hC hN 1 1 rfl rfl (by decide) kf8_21 rfl rfl dX8_init_23 ?_
  refine c_aload_n hC dX8_init_26 rfl rfl ?_
  refine c_make (gg := 4) (ci := 3) (cells' := 15) (slots' := 572) hC mk_3 kC3_init (Or.inl km8_27) kI3_init kN3 kclX8_25 kin3 rfl rfl ddi3 ⟨by decide, by decide⟩ (by decide) rfl (fun _ => rfl) (by decide +kernel) rfl rfl ⟨by decide, by decide⟩ (by decide) h201 (by decide +kernel) (by decide +kernel) (by decide +kernel) dX8_init_27 dX8_init_30 dX8_init_31 (by decide) ?_
  refine c_putF hC hN 2 1 rfl rfl (by decide) kf8_28 rfl rfl dX8_init_34 ?_
  refine c_aload_n hC dX8_init_37 rfl rfl ?_
  refine c_bipush hC dX8_init_38 (by decide) ?_
  refine c_newa (h := 13) (t := 0) (N := 6) (hs' := [0, 1, 2, 19, 20, 21, 22, 23, 24, 25, 26, 3, 27, 28, 29, 4, 30, 13]) (cells' := 16) (slots' := 578) hC kA_int (by decide) rfl rfl (fun _ => rfl) (by decide) (by decide) (by decide +kernel) rfl rfl rfl (by decide) (by decide) dX8_init_40 ?_
  refine c_putF hC hN 3 1 rfl rfl (by decide) kf8_32 rfl rfl dX8_init_42 ?_
  refine c_aload_n hC dX8_init_45 rfl rfl ?_
  refine c_bipush hC dX8_init_46 (by decide) ?_
  refine c_newa (h := 14) (t := 0) (N := 6) (hs' := [0, 1, 2, 19, 20, 21, 22, 23, 24, 25, 26, 3, 27, 28, 29, 4, 30, 13, 14]) (cells' := 17) (slots' := 584) hC kA_int (by decide) rfl rfl (fun _ => rfl) (by decide) (by decide) (by decide +kernel) rfl rfl rfl (by decide) (by decide) dX8_init_48 ?_
  refine c_putF hC hN 4 1 rfl rfl (by decide) kf8_36 rfl rfl dX8_init_50 ?_
  refine c_aload_n hC dX8_init_53 rfl rfl ?_
  refine c_bipush hC dX8_init_54 (by decide) ?_
  refine c_newa (h := 15) (t := 0) (N := 6) (hs' := [0, 1, 2, 19, 20, 21, 22, 23, 24, 25, 26, 3, 27, 28, 29, 4, 30, 13, 14, 15]) (cells' := 18) (slots' := 590) hC kA_int (by decide) rfl rfl (fun _ => rfl) (by decide) (by decide) (by decide +kernel) rfl rfl rfl (by decide) (by decide) dX8_init_56 ?_
  refine c_putF hC hN 5 1 rfl rfl (by decide) kf8_39 rfl rfl dX8_init_58 ?_
  refine c_aload_n hC dX8_init_61 rfl rfl ?_
  refine c_bipush hC dX8_init_62 (by decide) ?_
  refine c_newa (h := 16) (t := 0) (N := 6) (hs' := [0, 1, 2, 19, 20, 21, 22, 23, 24, 25, 26, 3, 27, 28, 29, 4, 30, 13, 14, 15, 16]) (cells' := 19) (slots' := 596) hC kA_int (by decide) rfl rfl (fun _ => rfl) (by decide) (by decide) (by decide +kernel) rfl rfl rfl (by decide) (by decide) dX8_init_64 ?_
  refine c_putF hC hN 6 1 rfl rfl (by decide) kf8_42 rfl rfl dX8_init_66 ?_
  refine c_aload_n hC dX8_init_69 rfl rfl ?_
  refine c_sipush hC dX8_init_70 (by decide) ?_
  refine c_newa (h := 17) (t := 0) (N := 180) (hs' := [0, 1, 2, 19, 20, 21, 22, 23, 24, 25, 26, 3, 27, 28, 29, 4, 30, 13, 14, 15, 16, 17]) (cells' := 20) (slots' := 776) hC kA_int (by decide) rfl rfl (fun _ => rfl) (by decide) (by decide) (by decide +kernel) rfl rfl rfl (by decide) (by decide) dX8_init_73 ?_
  refine c_putF hC hN 7 1 rfl rfl (by decide) kf8_45 rfl rfl dX8_init_75 ?_
  refine c_aload_n hC dX8_init_78 rfl rfl ?_
  refine c_sipush hC dX8_init_79 (by decide) ?_
  refine c_newa (h := 18) (t := 0) (N := 360) (hs' := [0, 1, 2, 19, 20, 21, 22, 23, 24, 25, 26, 3, 27, 28, 29, 4, 30, 13, 14, 15, 16, 17, 18]) (cells' := 21) (slots' := 1136) hC kA_int (by decide) rfl rfl (fun _ => rfl) (by decide) (by decide) (by decide +kernel) rfl rfl rfl (by decide) (by decide) dX8_init_82 ?_
  refine c_putF hC hN 8 1 rfl rfl (by decide) kf8_48 rfl rfl dX8_init_84 ?_
  exact c_vret hC dX8_init_87 (fun _ => rfl)
set_option maxRecDepth 100000 in
set_option maxHeartbeats 4000000 in
theorem mk_9 : Mk l D aC n0 f0 yX9_init cX9_init 1 none 1 20 7 4460 [vR 5] none [0, 1, 2, 19, 20, 21, 22, 23, 24, 25, 26, 3, 27, 28, 29, 4, 30, 13, 14, 15, 16, 17, 18, 5] [(0, 3), (0, 2), (0, 1), (0, 0), (1, 8), (1, 7), (1, 6), (1, 5), (1, 4), (1, 3), (1, 2), (4, 0), (1, 1), (3, 2), (3, 1), (3, 0), (1, 0), (2, 7), (2, 6), (2, 5), (2, 4), (2, 3), (2, 2), (2, 1), (2, 0)] cm2 [0, 1, 2, 19, 20, 21, 22, 23, 24, 25, 26, 3, 27, 28, 29, 4, 30, 13, 14, 15, 16, 17, 18, 5, 31, 32, 33, 34, 35, 36, 37] [(5, 8), (5, 7), (5, 4), (5, 3), (5, 2), (5, 1), (5, 0), (0, 3), (0, 2), (0, 1), (0, 0), (1, 8), (1, 7), (1, 6), (1, 5), (1, 4), (1, 3), (1, 2), (4, 0), (1, 1), (3, 2), (3, 1), (3, 0), (1, 0), (2, 7), (2, 6), (2, 5), (2, 4), (2, 3), (2, 2), (2, 1), (2, 0)] cm2 := by
  refine Mk.of (by decide) (by simp [wid, isJ]) fun ad0 p e R s m args below meth c h201 hC hN => ?_
  refine c_sub (L' := [(0, vR 5)]) ?_ ⟨rfl, trivial⟩
  refine c_aload_n hC dX9_init_0 rfl rfl ?_
  refine c_obj (S := []) hC kO9 kOi kOc (by decide) (by decide) dX9_init_1 ?_
  refine c_aload_n hC dX9_init_4 rfl rfl ?_
  refine c_bipush hC dX9_init_5 (by decide) ?_
  refine c_newa (h := 31) (t := 0) (N := 16) (hs' := [0, 1, 2, 19, 20, 21, 22, 23, 24, 25, 26, 3, 27, 28, 29, 4, 30, 13, 14, 15, 16, 17, 18, 5, 31]) (cells' := 1) (slots' := 16) hC kA_int (by decide) rfl rfl (fun _ => rfl) (by decide) (by decide) (by decide +kernel) rfl rfl rfl (by decide) (by decide) dX9_init_7 ?_
  refine c_putF hC hN 0 23 rfl rfl (by decide) kf9_9 rfl rfl dX9_init_9 ?_
  refine c_aload_n hC dX9_init_12 rfl rfl ?_
  refine c_bipush hC dX9_init_13 (by decide) ?_
  refine c_newa (h := 32) (t := 0) (N := 16) (hs' := [0, 1, 2, 19, 20, 21, 22, 23, 24, 25, 26, 3, 27, 28, 29, 4, 30, 13, 14, 15, 16, 17, 18, 5, 31, 32]) (cells' := 2) (slots' := 32) hC kA_int (by decide) rfl rfl (fun _ => rfl) (by decide) (by decide) (by decide +kernel) rfl rfl rfl (by decide) (by decide) dX9_init_15 ?_
  refine c_putF hC hN 1 23 rfl rfl (by decide) kf9_15 rfl rfl dX9_init_17 ?_
  refine c_aload_n hC dX9_init_20 rfl rfl ?_
  refine c_bipush hC dX9_init_21 (by decide) ?_
  refine c_newa (h := 33) (t := 0) (N := 16) (hs' := [0, 1, 2, 19, 20, 21, 22, 23, 24, 25, 26, 3, 27, 28, 29, 4, 30, 13, 14, 15, 16, 17, 18, 5, 31, 32, 33]) (cells' := 3) (slots' := 48) hC kA_int (by decide) rfl rfl (fun _ => rfl) (by decide) (by decide) (by decide +kernel) rfl rfl rfl (by decide) (by decide) dX9_init_23 ?_
  refine c_putF hC hN 2 23 rfl rfl (by decide) kf9_18 rfl rfl dX9_init_25 ?_
  refine c_aload_n hC dX9_init_28 rfl rfl ?_
  refine c_bipush hC dX9_init_29 (by decide) ?_
  refine c_newa (h := 34) (t := 0) (N := 16) (hs' := [0, 1, 2, 19, 20, 21, 22, 23, 24, 25, 26, 3, 27, 28, 29, 4, 30, 13, 14, 15, 16, 17, 18, 5, 31, 32, 33, 34]) (cells' := 4) (slots' := 64) hC kA_int (by decide) rfl rfl (fun _ => rfl) (by decide) (by decide) (by decide +kernel) rfl rfl rfl (by decide) (by decide) dX9_init_31 ?_
  refine c_putF hC hN 3 23 rfl rfl (by decide) kf9_21 rfl rfl dX9_init_33 ?_
  refine c_aload_n hC dX9_init_36 rfl rfl ?_
  refine c_bipush hC dX9_init_37 (by decide) ?_
  refine c_newa (h := 35) (t := 0) (N := 16) (hs' := [0, 1, 2, 19, 20, 21, 22, 23, 24, 25, 26, 3, 27, 28, 29, 4, 30, 13, 14, 15, 16, 17, 18, 5, 31, 32, 33, 34, 35]) (cells' := 5) (slots' := 80) hC kA_int (by decide) rfl rfl (fun _ => rfl) (by decide) (by decide) (by decide +kernel) rfl rfl rfl (by decide) (by decide) dX9_init_39 ?_
  refine c_putF hC hN 4 23 rfl rfl (by decide) kf9_24 rfl rfl dX9_init_41 ?_
  refine c_aload_n hC dX9_init_44 rfl rfl ?_
  refine c_bipush hC dX9_init_45 (by decide) ?_
  refine c_newa (h := 36) (t := 0) (N := 6) (hs' := [0, 1, 2, 19, 20, 21, 22, 23, 24, 25, 26, 3, 27, 28, 29, 4, 30, 13, 14, 15, 16, 17, 18, 5, 31, 32, 33, 34, 35, 36]) (cells' := 6) (slots' := 86) hC kA_int (by decide) rfl rfl (fun _ => rfl) (by decide) (by decide) (by decide +kernel) rfl rfl rfl (by decide) (by decide) dX9_init_47 ?_
  refine c_putF hC hN 7 23 rfl rfl (by decide) kf9_27 rfl rfl dX9_init_49 ?_
  refine c_aload_n hC dX9_init_52 rfl rfl ?_
  refine c_sipush hC dX9_init_53 (by decide) ?_
  refine c_newa (h := 37) (t := 0) (N := 4374) (hs' := [0, 1, 2, 19, 20, 21, 22, 23, 24, 25, 26, 3, 27, 28, 29, 4, 30, 13, 14, 15, 16, 17, 18, 5, 31, 32, 33, 34, 35, 36, 37]) (cells' := 7) (slots' := 4460) hC kA_int (by decide) rfl rfl (fun _ => rfl) (by decide) (by decide) (by decide +kernel) rfl rfl rfl (by decide) (by decide) dX9_init_56 ?_
  refine c_putF hC hN 8 23 rfl rfl (by decide) kf9_30 rfl rfl dX9_init_58 ?_
  exact c_vret hC dX9_init_61 (fun _ => rfl)
set_option maxRecDepth 100000 in
set_option maxHeartbeats 4000000 in
theorem mk_1 : Mk l D aC n0 f0 yX1_init cX1_init 1 none 1 20 3 24 [vR 6] none [0, 1, 2, 19, 20, 21, 22, 23, 24, 25, 26, 3, 27, 28, 29, 4, 30, 13, 14, 15, 16, 17, 18, 5, 31, 32, 33, 34, 35, 36, 37, 6] [(0, 4), (5, 8), (5, 7), (5, 4), (5, 3), (5, 2), (5, 1), (5, 0), (0, 3), (0, 2), (0, 1), (0, 0), (1, 8), (1, 7), (1, 6), (1, 5), (1, 4), (1, 3), (1, 2), (4, 0), (1, 1), (3, 2), (3, 1), (3, 0), (1, 0), (2, 7), (2, 6), (2, 5), (2, 4), (2, 3), (2, 2), (2, 1), (2, 0)] cm2 [0, 1, 2, 19, 20, 21, 22, 23, 24, 25, 26, 3, 27, 28, 29, 4, 30, 13, 14, 15, 16, 17, 18, 5, 31, 32, 33, 34, 35, 36, 37, 6, 38, 39, 40] [(6, 2), (6, 1), (6, 0), (0, 4), (5, 8), (5, 7), (5, 4), (5, 3), (5, 2), (5, 1), (5, 0), (0, 3), (0, 2), (0, 1), (0, 0), (1, 8), (1, 7), (1, 6), (1, 5), (1, 4), (1, 3), (1, 2), (4, 0), (1, 1), (3, 2), (3, 1), (3, 0), (1, 0), (2, 7), (2, 6), (2, 5), (2, 4), (2, 3), (2, 2), (2, 1), (2, 0)] cm2 := by
  refine Mk.of (by decide) (by simp [wid, isJ]) fun ad0 p e R s m args below meth c h201 hC hN => ?_
  refine c_sub (L' := [(0, vR 6)]) ?_ ⟨rfl, trivial⟩
  refine c_aload_n hC dX1_init_0 rfl rfl ?_
  refine c_obj (S := []) hC kO1 kOi kOc (by decide) (by decide) dX1_init_1 ?_
  refine c_aload_n hC dX1_init_4 rfl rfl ?_
  refine c_bipush hC dX1_init_5 (by decide) ?_
  refine c_newa (h := 38) (t := 0) (N := 8) (hs' := [0, 1, 2, 19, 20, 21, 22, 23, 24, 25, 26, 3, 27, 28, 29, 4, 30, 13, 14, 15, 16, 17, 18, 5, 31, 32, 33, 34, 35, 36, 37, 6, 38]) (cells' := 1) (slots' := 8) hC kA_int (by decide) rfl rfl (fun _ => rfl) (by decide) (by decide) (by decide +kernel) rfl rfl rfl (by decide) (by decide) dX1_init_7 ?_
  refine c_putF hC hN 0 31 rfl rfl (by decide) kf1_9 rfl rfl dX1_init_9 ?_
  refine c_aload_n hC dX1_init_12 rfl rfl ?_
  refine c_bipush hC dX1_init_13 (by decide) ?_
  refine c_newa (h := 39) (t := 0) (N := 8) (hs' := [0, 1, 2, 19, 20, 21, 22, 23, 24, 25, 26, 3, 27, 28, 29, 4, 30, 13, 14, 15, 16, 17, 18, 5, 31, 32, 33, 34, 35, 36, 37, 6, 38, 39]) (cells' := 2) (slots' := 16) hC kA_int (by decide) rfl rfl (fun _ => rfl) (by decide) (by decide) (by decide +kernel) rfl rfl rfl (by decide) (by decide) dX1_init_15 ?_
  refine c_putF hC hN 1 31 rfl rfl (by decide) kf1_15 rfl rfl dX1_init_17 ?_
  refine c_aload_n hC dX1_init_20 rfl rfl ?_
  refine c_bipush hC dX1_init_21 (by decide) ?_
  refine c_newa (h := 40) (t := 0) (N := 8) (hs' := [0, 1, 2, 19, 20, 21, 22, 23, 24, 25, 26, 3, 27, 28, 29, 4, 30, 13, 14, 15, 16, 17, 18, 5, 31, 32, 33, 34, 35, 36, 37, 6, 38, 39, 40]) (cells' := 3) (slots' := 24) hC kA_int (by decide) rfl rfl (fun _ => rfl) (by decide) (by decide) (by decide +kernel) rfl rfl rfl (by decide) (by decide) dX1_init_23 ?_
  refine c_putF hC hN 2 31 rfl rfl (by decide) kf1_18 rfl rfl dX1_init_25 ?_
  exact c_vret hC dX1_init_28 (fun _ => rfl)
set_option maxRecDepth 100000 in
set_option maxHeartbeats 4000000 in
theorem mk_7 : Mk l D aC n0 f0 yX7_init cX7_init 1 none 1 20 4 32 [vR 7] none [0, 1, 2, 19, 20, 21, 22, 23, 24, 25, 26, 3, 27, 28, 29, 4, 30, 13, 14, 15, 16, 17, 18, 5, 31, 32, 33, 34, 35, 36, 37, 6, 38, 39, 40, 7] [(0, 5), (6, 2), (6, 1), (6, 0), (0, 4), (5, 8), (5, 7), (5, 4), (5, 3), (5, 2), (5, 1), (5, 0), (0, 3), (0, 2), (0, 1), (0, 0), (1, 8), (1, 7), (1, 6), (1, 5), (1, 4), (1, 3), (1, 2), (4, 0), (1, 1), (3, 2), (3, 1), (3, 0), (1, 0), (2, 7), (2, 6), (2, 5), (2, 4), (2, 3), (2, 2), (2, 1), (2, 0)] cm2 [0, 1, 2, 19, 20, 21, 22, 23, 24, 25, 26, 3, 27, 28, 29, 4, 30, 13, 14, 15, 16, 17, 18, 5, 31, 32, 33, 34, 35, 36, 37, 6, 38, 39, 40, 7, 41, 42, 43, 44] [(7, 3), (7, 2), (7, 1), (7, 0), (0, 5), (6, 2), (6, 1), (6, 0), (0, 4), (5, 8), (5, 7), (5, 4), (5, 3), (5, 2), (5, 1), (5, 0), (0, 3), (0, 2), (0, 1), (0, 0), (1, 8), (1, 7), (1, 6), (1, 5), (1, 4), (1, 3), (1, 2), (4, 0), (1, 1), (3, 2), (3, 1), (3, 0), (1, 0), (2, 7), (2, 6), (2, 5), (2, 4), (2, 3), (2, 2), (2, 1), (2, 0)] cm2 := by
  refine Mk.of (by decide) (by simp [wid, isJ]) fun ad0 p e R s m args below meth c h201 hC hN => ?_
  refine c_sub (L' := [(0, vR 7)]) ?_ ⟨rfl, trivial⟩
  refine c_aload_n hC dX7_init_0 rfl rfl ?_
  refine c_obj (S := []) hC kO7 kOi kOc (by decide) (by decide) dX7_init_1 ?_
  refine c_aload_n hC dX7_init_4 rfl rfl ?_
  refine c_bipush hC dX7_init_5 (by decide) ?_
  refine c_newa (h := 41) (t := 0) (N := 8) (hs' := [0, 1, 2, 19, 20, 21, 22, 23, 24, 25, 26, 3, 27, 28, 29, 4, 30, 13, 14, 15, 16, 17, 18, 5, 31, 32, 33, 34, 35, 36, 37, 6, 38, 39, 40, 7, 41]) (cells' := 1) (slots' := 8) hC kA_int (by decide) rfl rfl (fun _ => rfl) (by decide) (by decide) (by decide +kernel) rfl rfl rfl (by decide) (by decide) dX7_init_7 ?_
  refine c_putF hC hN 0 35 rfl rfl (by decide) kf7_9 rfl rfl dX7_init_9 ?_
  refine c_aload_n hC dX7_init_12 rfl rfl ?_
  refine c_bipush hC dX7_init_13 (by decide) ?_
  refine c_newa (h := 42) (t := 0) (N := 8) (hs' := [0, 1, 2, 19, 20, 21, 22, 23, 24, 25, 26, 3, 27, 28, 29, 4, 30, 13, 14, 15, 16, 17, 18, 5, 31, 32, 33, 34, 35, 36, 37, 6, 38, 39, 40, 7, 41, 42]) (cells' := 2) (slots' := 16) hC kA_int (by decide) rfl rfl (fun _ => rfl) (by decide) (by decide) (by decide +kernel) rfl rfl rfl (by decide) (by decide) dX7_init_15 ?_
  refine c_putF hC hN 1 35 rfl rfl (by decide) kf7_15 rfl rfl dX7_init_17 ?_
  refine c_aload_n hC dX7_init_20 rfl rfl ?_
  refine c_bipush hC dX7_init_21 (by decide) ?_
  refine c_newa (h := 43) (t := 0) (N := 8) (hs' := [0, 1, 2, 19, 20, 21, 22, 23, 24, 25, 26, 3, 27, 28, 29, 4, 30, 13, 14, 15, 16, 17, 18, 5, 31, 32, 33, 34, 35, 36, 37, 6, 38, 39, 40, 7, 41, 42, 43]) (cells' := 3) (slots' := 24) hC kA_int (by decide) rfl rfl (fun _ => rfl) (by decide) (by decide) (by decide +kernel) rfl rfl rfl (by decide) (by decide) dX7_init_23 ?_
  refine c_putF hC hN 2 35 rfl rfl (by decide) kf7_18 rfl rfl dX7_init_25 ?_
  refine c_aload_n hC dX7_init_28 rfl rfl ?_
  refine c_bipush hC dX7_init_29 (by decide) ?_
  refine c_newa (h := 44) (t := 0) (N := 8) (hs' := [0, 1, 2, 19, 20, 21, 22, 23, 24, 25, 26, 3, 27, 28, 29, 4, 30, 13, 14, 15, 16, 17, 18, 5, 31, 32, 33, 34, 35, 36, 37, 6, 38, 39, 40, 7, 41, 42, 43, 44]) (cells' := 4) (slots' := 32) hC kA_int (by decide) rfl rfl (fun _ => rfl) (by decide) (by decide) (by decide +kernel) rfl rfl rfl (by decide) (by decide) dX7_init_31 ?_
  refine c_putF hC hN 3 35 rfl rfl (by decide) kf7_21 rfl rfl dX7_init_33 ?_
  exact c_vret hC dX7_init_36 (fun _ => rfl)
set_option maxRecDepth 100000 in
set_option maxHeartbeats 4000000 in
theorem mk_10 : Mk l D aC n0 f0 yX10_init cX10_init 1 none 1 20 5 408 [vR 8] none [0, 1, 2, 19, 20, 21, 22, 23, 24, 25, 26, 3, 27, 28, 29, 4, 30, 13, 14, 15, 16, 17, 18, 5, 31, 32, 33, 34, 35, 36, 37, 6, 38, 39, 40, 7, 41, 42, 43, 44, 8] [(0, 6), (7, 3), (7, 2), (7, 1), (7, 0), (0, 5), (6, 2), (6, 1), (6, 0), (0, 4), (5, 8), (5, 7), (5, 4), (5, 3), (5, 2), (5, 1), (5, 0), (0, 3), (0, 2), (0, 1), (0, 0), (1, 8), (1, 7), (1, 6), (1, 5), (1, 4), (1, 3), (1, 2), (4, 0), (1, 1), (3, 2), (3, 1), (3, 0), (1, 0), (2, 7), (2, 6), (2, 5), (2, 4), (2, 3), (2, 2), (2, 1), (2, 0)] cm2 [0, 1, 2, 19, 20, 21, 22, 23, 24, 25, 26, 3, 27, 28, 29, 4, 30, 13, 14, 15, 16, 17, 18, 5, 31, 32, 33, 34, 35, 36, 37, 6, 38, 39, 40, 7, 41, 42, 43, 44, 8, 45, 46, 47, 48, 49] [(8, 4), (8, 3), (8, 2), (8, 1), (8, 0), (0, 6), (7, 3), (7, 2), (7, 1), (7, 0), (0, 5), (6, 2), (6, 1), (6, 0), (0, 4), (5, 8), (5, 7), (5, 4), (5, 3), (5, 2), (5, 1), (5, 0), (0, 3), (0, 2), (0, 1), (0, 0), (1, 8), (1, 7), (1, 6), (1, 5), (1, 4), (1, 3), (1, 2), (4, 0), (1, 1), (3, 2), (3, 1), (3, 0), (1, 0), (2, 7), (2, 6), (2, 5), (2, 4), (2, 3), (2, 2), (2, 1), (2, 0)] cm2 := by
  refine Mk.of (by decide) (by simp [wid, isJ]) fun ad0 p e R s m args below meth c h201 hC hN => ?_
  refine c_sub (L' := [(0, vR 8)]) ?_ ⟨rfl, trivial⟩
  refine c_aload_n hC dX10_init_0 rfl rfl ?_
  refine c_obj (S := []) hC kO10 kOi kOc (by decide) (by decide) dX10_init_1 ?_
  refine c_aload_n hC dX10_init_4 rfl rfl ?_
  refine c_bipush hC dX10_init_5 (by decide) ?_
  refine c_newa (h := 45) (t := 0) (N := 6) (hs' := [0, 1, 2, 19, 20, 21, 22, 23, 24, 25, 26, 3, 27, 28, 29, 4, 30, 13, 14, 15, 16, 17, 18, 5, 31, 32, 33, 34, 35, 36, 37, 6, 38, 39, 40, 7, 41, 42, 43, 44, 8, 45]) (cells' := 1) (slots' := 6) hC kA_int (by decide) rfl rfl (fun _ => rfl) (by decide) (by decide) (by decide +kernel) rfl rfl rfl (by decide) (by decide) dX10_init_7 ?_
  refine c_putF hC hN 0 40 rfl rfl (by decide) kf10_9 rfl rfl dX10_init_9 ?_
  refine c_aload_n hC dX10_init_12 rfl rfl ?_
  refine c_bipush hC dX10_init_13 (by decide) ?_
  refine c_newa (h := 46) (t := 0) (N := 6) (hs' := [0, 1, 2, 19, 20, 21, 22, 23, 24, 25, 26, 3, 27, 28, 29, 4, 30, 13, 14, 15, 16, 17, 18, 5, 31, 32, 33, 34, 35, 36, 37, 6, 38, 39, 40, 7, 41, 42, 43, 44, 8, 45, 46]) (cells' := 2) (slots' := 12) hC kA_int (by decide) rfl rfl (fun _ => rfl) (by decide) (by decide) (by decide +kernel) rfl rfl rfl (by decide) (by decide) dX10_init_15 ?_
  refine c_putF hC hN 1 40 rfl rfl (by decide) kf10_15 rfl rfl dX10_init_17 ?_
  refine c_aload_n hC dX10_init_20 rfl rfl ?_
  refine c_bipush hC dX10_init_21 (by decide) ?_
  refine c_newa (h := 47) (t := 0) (N := 6) (hs' := [0, 1, 2, 19, 20, 21, 22, 23, 24, 25, 26, 3, 27, 28, 29, 4, 30, 13, 14, 15, 16, 17, 18, 5, 31, 32, 33, 34, 35, 36, 37, 6, 38, 39, 40, 7, 41, 42, 43, 44, 8, 45, 46, 47]) (cells' := 3) (slots' := 18) hC kA_int (by decide) rfl rfl (fun _ => rfl) (by decide) (by decide) (by decide +kernel) rfl rfl rfl (by decide) (by decide) dX10_init_23 ?_
  refine c_putF hC hN 2 40 rfl rfl (by decide) kf10_18 rfl rfl dX10_init_25 ?_
  refine c_aload_n hC dX10_init_28 rfl rfl ?_
  refine c_bipush hC dX10_init_29 (by decide) ?_
  refine c_newa (h := 48) (t := 0) (N := 6) (hs' := [0, 1, 2, 19, 20, 21, 22, 23, 24, 25, 26, 3, 27, 28, 29, 4, 30, 13, 14, 15, 16, 17, 18, 5, 31, 32, 33, 34, 35, 36, 37, 6, 38, 39, 40, 7, 41, 42, 43, 44, 8, 45, 46, 47, 48]) (cells' := 4) (slots' := 24) hC kA_int (by decide) rfl rfl (fun _ => rfl) (by decide) (by decide) (by decide +kernel) rfl rfl rfl (by decide) (by decide) dX10_init_31 ?_
  refine c_putF hC hN 3 40 rfl rfl (by decide) kf10_21 rfl rfl dX10_init_33 ?_
  refine c_aload_n hC dX10_init_36 rfl rfl ?_
  refine c_sipush hC dX10_init_37 (by decide) ?_
  refine c_newa (h := 49) (t := 0) (N := 384) (hs' := [0, 1, 2, 19, 20, 21, 22, 23, 24, 25, 26, 3, 27, 28, 29, 4, 30, 13, 14, 15, 16, 17, 18, 5, 31, 32, 33, 34, 35, 36, 37, 6, 38, 39, 40, 7, 41, 42, 43, 44, 8, 45, 46, 47, 48, 49]) (cells' := 5) (slots' := 408) hC kA_int (by decide) rfl rfl (fun _ => rfl) (by decide) (by decide) (by decide +kernel) rfl rfl rfl (by decide) (by decide) dX10_init_40 ?_
  refine c_putF hC hN 4 40 rfl rfl (by decide) kf10_24 rfl rfl dX10_init_42 ?_
  exact c_vret hC dX10_init_45 (fun _ => rfl)
set_option maxRecDepth 100000 in
set_option maxHeartbeats 4000000 in
theorem mk_6 : Mk l D aC n0 f0 yX6_init cX6_init 1 none 1 20 0 0 [vR 9] none [0, 1, 2, 19, 20, 21, 22, 23, 24, 25, 26, 3, 27, 28, 29, 4, 30, 13, 14, 15, 16, 17, 18, 5, 31, 32, 33, 34, 35, 36, 37, 6, 38, 39, 40, 7, 41, 42, 43, 44, 8, 45, 46, 47, 48, 49, 9] [(0, 7), (8, 4), (8, 3), (8, 2), (8, 1), (8, 0), (0, 6), (7, 3), (7, 2), (7, 1), (7, 0), (0, 5), (6, 2), (6, 1), (6, 0), (0, 4), (5, 8), (5, 7), (5, 4), (5, 3), (5, 2), (5, 1), (5, 0), (0, 3), (0, 2), (0, 1), (0, 0), (1, 8), (1, 7), (1, 6), (1, 5), (1, 4), (1, 3), (1, 2), (4, 0), (1, 1), (3, 2), (3, 1), (3, 0), (1, 0), (2, 7), (2, 6), (2, 5), (2, 4), (2, 3), (2, 2), (2, 1), (2, 0)] cm2 [0, 1, 2, 19, 20, 21, 22, 23, 24, 25, 26, 3, 27, 28, 29, 4, 30, 13, 14, 15, 16, 17, 18, 5, 31, 32, 33, 34, 35, 36, 37, 6, 38, 39, 40, 7, 41, 42, 43, 44, 8, 45, 46, 47, 48, 49, 9] [(0, 7), (8, 4), (8, 3), (8, 2), (8, 1), (8, 0), (0, 6), (7, 3), (7, 2), (7, 1), (7, 0), (0, 5), (6, 2), (6, 1), (6, 0), (0, 4), (5, 8), (5, 7), (5, 4), (5, 3), (5, 2), (5, 1), (5, 0), (0, 3), (0, 2), (0, 1), (0, 0), (1, 8), (1, 7), (1, 6), (1, 5), (1, 4), (1, 3), (1, 2), (4, 0), (1, 1), (3, 2), (3, 1), (3, 0), (1, 0), (2, 7), (2, 6), (2, 5), (2, 4), (2, 3), (2, 2), (2, 1), (2, 0)] cm2 := by
  refine Mk.of (by decide) (by simp [wid, isJ]) fun ad0 p e R s m args below meth c h201 hC hN => ?_
  refine c_sub (L' := [(0, vR 9)]) ?_ ⟨rfl, trivial⟩
  refine c_aload_n hC dX6_init_0 rfl rfl ?_
  refine c_obj (S := []) hC kO6 kOi kOc (by decide) (by decide) dX6_init_1 ?_
  exact c_vret hC dX6_init_4 (fun _ => rfl)
set_option maxRecDepth 100000 in
set_option maxHeartbeats 4000000 in
theorem mk_5 : Mk l D aC n0 f0 yX5_init cX5_init 1 none 1 20 1 36 [vR 10] none [0, 1, 2, 19, 20, 21, 22, 23, 24, 25, 26, 3, 27, 28, 29, 4, 30, 13, 14, 15, 16, 17, 18, 5, 31, 32, 33, 34, 35, 36, 37, 6, 38, 39, 40, 7, 41, 42, 43, 44, 8, 45, 46, 47, 48, 49, 9, 10] [(0, 8), (0, 7), (8, 4), (8, 3), (8, 2), (8, 1), (8, 0), (0, 6), (7, 3), (7, 2), (7, 1), (7, 0), (0, 5), (6, 2), (6, 1), (6, 0), (0, 4), (5, 8), (5, 7), (5, 4), (5, 3), (5, 2), (5, 1), (5, 0), (0, 3), (0, 2), (0, 1), (0, 0), (1, 8), (1, 7), (1, 6), (1, 5), (1, 4), (1, 3), (1, 2), (4, 0), (1, 1), (3, 2), (3, 1), (3, 0), (1, 0), (2, 7), (2, 6), (2, 5), (2, 4), (2, 3), (2, 2), (2, 1), (2, 0)] cm2 [0, 1, 2, 19, 20, 21, 22, 23, 24, 25, 26, 3, 27, 28, 29, 4, 30, 13, 14, 15, 16, 17, 18, 5, 31, 32, 33, 34, 35, 36, 37, 6, 38, 39, 40, 7, 41, 42, 43, 44, 8, 45, 46, 47, 48, 49, 9, 10, 50] [(10, 0), (0, 8), (0, 7), (8, 4), (8, 3), (8, 2), (8, 1), (8, 0), (0, 6), (7, 3), (7, 2), (7, 1), (7, 0), (0, 5), (6, 2), (6, 1), (6, 0), (0, 4), (5, 8), (5, 7), (5, 4), (5, 3), (5, 2), (5, 1), (5, 0), (0, 3), (0, 2), (0, 1), (0, 0), (1, 8), (1, 7), (1, 6), (1, 5), (1, 4), (1, 3), (1, 2), (4, 0), (1, 1), (3, 2), (3, 1), (3, 0), (1, 0), (2, 7), (2, 6), (2, 5), (2, 4), (2, 3), (2, 2), (2, 1), (2, 0)] cm2 := by
  refine Mk.of (by decide) (by simp [wid, isJ]) fun ad0 p e R s m args below meth c h201 hC hN => ?_
  refine c_sub (L' := [(0, vR 10)]) ?_ ⟨rfl, trivial⟩
  refine c_aload_n hC dX5_init_0 rfl rfl ?_
  refine c_obj (S := []) hC kO5 kOi kOc (by decide) (by decide) dX5_init_1 ?_
  refine c_aload_n hC dX5_init_4 rfl rfl ?_
  refine c_bipush hC dX5_init_5 (by decide) ?_
  refine c_newa (h := 50) (t := 0) (N := 36) (hs' := [0, 1, 2, 19, 20, 21, 22, 23, 24, 25, 26, 3, 27, 28, 29, 4, 30, 13, 14, 15, 16, 17, 18, 5, 31, 32, 33, 34, 35, 36, 37, 6, 38, 39, 40, 7, 41, 42, 43, 44, 8, 45, 46, 47, 48, 49, 9, 10, 50]) (cells' := 1) (slots' := 36) hC kA_int (by decide) rfl rfl (fun _ => rfl) (by decide) (by decide) (by decide +kernel) rfl rfl rfl (by decide) (by decide) dX5_init_7 ?_
  refine c_putF hC hN 0 47 rfl rfl (by decide) kf5_9 rfl rfl dX5_init_9 ?_
  exact c_vret hC dX5_init_12 (fun _ => rfl)
set_option maxRecDepth 100000 in
set_option maxHeartbeats 4000000 in
theorem mk_2 : Mk l D aC n0 f0 yX2_init cX2_init 1 none 1 20 2 225 [vR 11] none [0, 1, 2, 19, 20, 21, 22, 23, 24, 25, 26, 3, 27, 28, 29, 4, 30, 13, 14, 15, 16, 17, 18, 5, 31, 32, 33, 34, 35, 36, 37, 6, 38, 39, 40, 7, 41, 42, 43, 44, 8, 45, 46, 47, 48, 49, 9, 10, 50, 11] [(0, 9), (10, 0), (0, 8), (0, 7), (8, 4), (8, 3), (8, 2), (8, 1), (8, 0), (0, 6), (7, 3), (7, 2), (7, 1), (7, 0), (0, 5), (6, 2), (6, 1), (6, 0), (0, 4), (5, 8), (5, 7), (5, 4), (5, 3), (5, 2), (5, 1), (5, 0), (0, 3), (0, 2), (0, 1), (0, 0), (1, 8), (1, 7), (1, 6), (1, 5), (1, 4), (1, 3), (1, 2), (4, 0), (1, 1), (3, 2), (3, 1), (3, 0), (1, 0), (2, 7), (2, 6), (2, 5), (2, 4), (2, 3), (2, 2), (2, 1), (2, 0)] cm2 [0, 1, 2, 19, 20, 21, 22, 23, 24, 25, 26, 3, 27, 28, 29, 4, 30, 13, 14, 15, 16, 17, 18, 5, 31, 32, 33, 34, 35, 36, 37, 6, 38, 39, 40, 7, 41, 42, 43, 44, 8, 45, 46, 47, 48, 49, 9, 10, 50, 11, 51, 52] [(11, 4), (11, 0), (0, 9), (10, 0), (0, 8), (0, 7), (8, 4), (8, 3), (8, 2), (8, 1), (8, 0), (0, 6), (7, 3), (7, 2), (7, 1), (7, 0), (0, 5), (6, 2), (6, 1), (6, 0), (0, 4), (5, 8), (5, 7), (5, 4), (5, 3), (5, 2), (5, 1), (5, 0), (0, 3), (0, 2), (0, 1), (0, 0), (1, 8), (1, 7), (1, 6), (1, 5), (1, 4), (1, 3), (1, 2), (4, 0), (1, 1), (3, 2), (3, 1), (3, 0), (1, 0), (2, 7), (2, 6), (2, 5), (2, 4), (2, 3), (2, 2), (2, 1), (2, 0)] cm3 := by
  refine Mk.of (by decide) (by simp [wid, isJ]) fun ad0 p e R s m args below meth c h201 hC hN => ?_
  refine c_sub (L' := [(0, vR 11)]) ?_ ⟨rfl, trivial⟩
  refine c_aload_n hC dX2_init_0 rfl rfl ?_
  refine c_obj (S := []) hC kO2 kOi kOc (by decide) (by decide) dX2_init_1 ?_
  refine c_aload_n hC dX2_init_4 rfl rfl ?_
  refine c_bipush hC dX2_init_5 (by decide) ?_
  refine c_newa (h := 51) (t := 0) (N := 25) (hs' := [0, 1, 2, 19, 20, 21, 22, 23, 24, 25, 26, 3, 27, 28, 29, 4, 30, 13, 14, 15, 16, 17, 18, 5, 31, 32, 33, 34, 35, 36, 37, 6, 38, 39, 40, 7, 41, 42, 43, 44, 8, 45, 46, 47, 48, 49, 9, 10, 50, 11, 51]) (cells' := 1) (slots' := 25) hC kA_int (by decide) rfl rfl (fun _ => rfl) (by decide) (by decide) (by decide +kernel) rfl rfl rfl (by decide) (by decide) dX2_init_7 ?_
  refine c_putF hC hN 0 49 rfl rfl (by decide) kf2_11 rfl rfl dX2_init_9 ?_
  refine c_aload_n hC dX2_init_12 rfl rfl ?_
  refine c_iconst hC dX2_init_13 ?_
  refine c_putI (h := 11) (ci := 2) hC 3 49 rfl rfl (by decide) kf2_17 rfl dX2_init_14 ?_
  refine c_aload_n hC dX2_init_17 rfl rfl ?_
  refine c_sipush hC dX2_init_18 (by decide) ?_
  refine c_newa (h := 52) (t := 0) (N := 200) (hs' := [0, 1, 2, 19, 20, 21, 22, 23, 24, 25, 26, 3, 27, 28, 29, 4, 30, 13, 14, 15, 16, 17, 18, 5, 31, 32, 33, 34, 35, 36, 37, 6, 38, 39, 40, 7, 41, 42, 43, 44, 8, 45, 46, 47, 48, 49, 9, 10, 50, 11, 51, 52]) (cells' := 2) (slots' := 225) hC kA_int (by decide) rfl rfl (fun _ => rfl) (by decide) (by decide) (by decide +kernel) rfl rfl rfl (by decide) (by decide) dX2_init_21 ?_
  refine c_putF hC hN 4 49 rfl rfl (by decide) kf2_21 rfl rfl dX2_init_23 ?_
  exact c_vret hC dX2_init_26 (fun _ => rfl)
set_option maxRecDepth 100000 in
set_option maxHeartbeats 4000000 in
theorem mk_11 : Mk l D aC n0 f0 yX11_init cX11_init 1 none 4 81 51 6386 [vR 0] none [0] [] cm0 [0, 1, 2, 19, 20, 21, 22, 23, 24, 25, 26, 3, 27, 28, 29, 4, 30, 13, 14, 15, 16, 17, 18, 5, 31, 32, 33, 34, 35, 36, 37, 6, 38, 39, 40, 7, 41, 42, 43, 44, 8, 45, 46, 47, 48, 49, 9, 10, 50, 11, 51, 52] [(0, 10), (11, 4), (11, 0), (0, 9), (10, 0), (0, 8), (0, 7), (8, 4), (8, 3), (8, 2), (8, 1), (8, 0), (0, 6), (7, 3), (7, 2), (7, 1), (7, 0), (0, 5), (6, 2), (6, 1), (6, 0), (0, 4), (5, 8), (5, 7), (5, 4), (5, 3), (5, 2), (5, 1), (5, 0), (0, 3), (0, 2), (0, 1), (0, 0), (1, 8), (1, 7), (1, 6), (1, 5), (1, 4), (1, 3), (1, 2), (4, 0), (1, 1), (3, 2), (3, 1), (3, 0), (1, 0), (2, 7), (2, 6), (2, 5), (2, 4), (2, 3), (2, 2), (2, 1), (2, 0)] cm3 := by
  refine Mk.of (by decide) (by simp [wid, isJ]) fun ad0 p e R s m args below meth c h201 hC hN => ?_
  refine c_sub (L' := [(0, vR 0)]) ?_ ⟨rfl, trivial⟩
  refine c_aload_n hC dX11_init_0 rfl rfl ?_
  refine c_obj (S := []) hC kO11 kOi kOc (by decide) (by decide) dX11_init_1 ?_
  refine c_aload_n hC dX11_init_4 rfl rfl ?_
  refine c_make (gg := 1) (ci := 8) (cells' := 22) (slots' := 1153) hC mk_8 kC8_init (Or.inr kn11_9) kI8_init kN8 kclX11_7 kin8 rfl rfl ddi8 ⟨by decide, by decide⟩ (by decide) rfl (fun _ => rfl) (by decide +kernel) rfl rfl ⟨by decide, by decide⟩ (by decide) h201 (by decide +kernel) (by decide +kernel) (by decide +kernel) dX11_init_5 dX11_init_8 dX11_init_9 (by decide) ?_
  refine c_putF hC hN 0 0 rfl rfl (by decide) kf11_10 rfl rfl dX11_init_12 ?_
  refine c_aload_n hC dX11_init_15 rfl rfl ?_
  refine c_aload_n hC dX11_init_16 rfl rfl ?_
  refine c_getR (tg := 1) hC 0 0 rfl rfl (by decide) kf11_10 rfl (by decide +kernel) dX11_init_17 ?_
  refine c_getR (tg := 2) hC 0 1 rfl rfl (by decide) kf11_16 rfl (by decide +kernel) dX11_init_20 ?_
  refine c_putF hC hN 1 0 rfl rfl (by decide) kf11_20 rfl rfl dX11_init_23 ?_
  refine c_aload_n hC dX11_init_26 rfl rfl ?_
  refine c_aload_n hC dX11_init_27 rfl rfl ?_
  refine c_getR (tg := 1) hC 0 0 rfl rfl (by decide) kf11_10 rfl (by decide +kernel) dX11_init_28 ?_
  refine c_getR (tg := 3) hC 1 1 rfl rfl (by decide) kf11_21 rfl (by decide +kernel) dX11_init_31 ?_
  refine c_putF hC hN 2 0 rfl rfl (by decide) kf11_25 rfl rfl dX11_init_34 ?_
  refine c_aload_n hC dX11_init_37 rfl rfl ?_
  refine c_aload_n hC dX11_init_38 rfl rfl ?_
  refine c_getR (tg := 1) hC 0 0 rfl rfl (by decide) kf11_10 rfl (by decide +kernel) dX11_init_39 ?_
  refine c_getR (tg := 4) hC 2 1 rfl rfl (by decide) kf11_26 rfl (by decide +kernel) dX11_init_42 ?_
  refine c_putF hC hN 3 0 rfl rfl (by decide) kf11_30 rfl rfl dX11_init_45 ?_
  refine c_aload_n hC dX11_init_48 rfl rfl ?_
  refine c_make (gg := 5) (ci := 9) (cells' := 30) (slots' := 5623) hC mk_9 kC9_init (Or.inr kn11_33) kI9_init kN9 kclX11_31 kin9 rfl rfl ddi9 ⟨by decide, by decide⟩ (by decide) rfl (fun _ => rfl) (by decide +kernel) rfl rfl ⟨by decide, by decide⟩ (by decide) h201 (by decide +kernel) (by decide +kernel) (by decide +kernel) dX11_init_49 dX11_init_52 dX11_init_53 (by decide) ?_
  refine c_putF hC hN 4 0 rfl rfl (by decide) kf11_34 rfl rfl dX11_init_56 ?_
  refine c_aload_n hC dX11_init_59 rfl rfl ?_
  refine c_make (gg := 6) (ci := 1) (cells' := 34) (slots' := 5651) hC mk_1 kC1_init (Or.inr kn11_40) kI1_init kN1 kclX11_38 kin1 rfl rfl ddi1 ⟨by decide, by decide⟩ (by decide) rfl (fun _ => rfl) (by decide +kernel) rfl rfl ⟨by decide, by decide⟩ (by decide) h201 (by decide +kernel) (by decide +kernel) (by decide +kernel) dX11_init_60 dX11_init_63 dX11_init_64 (by decide) ?_
  refine c_putF hC hN 5 0 rfl rfl (by decide) kf11_41 rfl rfl dX11_init_67 ?_
  refine c_aload_n hC dX11_init_70 rfl rfl ?_
  refine c_make (gg := 7) (ci := 7) (cells' := 39) (slots' := 5688) hC mk_7 kC7_init (Or.inr kn11_47) kI7_init kN7 kclX11_45 kin7 rfl rfl ddi7 ⟨by decide, by decide⟩ (by decide) rfl (fun _ => rfl) (by decide +kernel) rfl rfl ⟨by decide, by decide⟩ (by decide) h201 (by decide +kernel) (by decide +kernel) (by decide +kernel) dX11_init_71 dX11_init_74 dX11_init_75 (by decide) ?_
  refine c_putF hC hN 6 0 rfl rfl (by decide) kf11_48 rfl rfl dX11_init_78 ?_
  refine c_aload_n hC dX11_init_81 rfl rfl ?_
  refine c_make (gg := 8) (ci := 10) (cells' := 45) (slots' := 6102) hC mk_10 kC10_init (Or.inr kn11_54) kI10_init kN10 kclX11_52 kin10 rfl rfl ddi10 ⟨by decide, by decide⟩ (by decide) rfl (fun _ => rfl) (by decide +kernel) rfl rfl ⟨by decide, by decide⟩ (by decide) h201 (by decide +kernel) (by decide +kernel) (by decide +kernel) dX11_init_82 dX11_init_85 dX11_init_86 (by decide) ?_
  refine c_putF hC hN 7 0 rfl rfl (by decide) kf11_55 rfl rfl dX11_init_89 ?_
  refine c_aload_n hC dX11_init_92 rfl rfl ?_
  refine c_make (gg := 9) (ci := 6) (cells' := 46) (slots' := 6110) hC mk_6 kC6_init (Or.inr kn11_61) kI6_init kN6 kclX11_59 kin6 rfl rfl ddi6 ⟨by decide, by decide⟩ (by decide) rfl (fun _ => rfl) (by decide +kernel) rfl rfl ⟨by decide, by decide⟩ (by decide) h201 (by decide +kernel) (by decide +kernel) (by decide +kernel) dX11_init_93 dX11_init_96 dX11_init_97 (by decide) ?_
  refine c_putF hC hN 8 0 rfl rfl (by decide) kf11_62 rfl rfl dX11_init_100 ?_
  refine c_aload_n hC dX11_init_103 rfl rfl ?_
  refine c_make (gg := 10) (ci := 5) (cells' := 48) (slots' := 6154) hC mk_5 kC5_init (Or.inr kn11_68) kI5_init kN5 kclX11_66 kin5 rfl rfl ddi5 ⟨by decide, by decide⟩ (by decide) rfl (fun _ => rfl) (by decide +kernel) rfl rfl ⟨by decide, by decide⟩ (by decide) h201 (by decide +kernel) (by decide +kernel) (by decide +kernel) dX11_init_104 dX11_init_107 dX11_init_108 (by decide) ?_
  refine c_putF hC hN 9 0 rfl rfl (by decide) kf11_69 rfl rfl dX11_init_111 ?_
  refine c_aload_n hC dX11_init_114 rfl rfl ?_
  refine c_make (gg := 11) (ci := 2) (cells' := 51) (slots' := 6386) hC mk_2 kC2_init (Or.inr kn11_75) kI2_init kN2 kclX11_73 kin2 rfl rfl ddi2 ⟨by decide, by decide⟩ (by decide) rfl (fun _ => rfl) (by decide +kernel) rfl rfl ⟨by decide, by decide⟩ (by decide) h201 (by decide +kernel) (by decide +kernel) (by decide +kernel) dX11_init_115 dX11_init_118 dX11_init_119 (by decide) ?_
  refine c_putF hC hN 10 0 rfl rfl (by decide) kf11_76 rfl rfl dX11_init_122 ?_
  exact c_vret hC dX11_init_125 (fun _ => rfl)
end CK
