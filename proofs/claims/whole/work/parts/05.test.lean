def g_Math_min (σ : ns_St) (x0 : Int32) (x1 : Int32) : Option (Int32 × ns_St) := ite2 (x1 < x0) (some (x1, σ)) (some (x0, σ))
def g_Math_max (σ : ns_St) (x0 : Int32) (x1 : Int32) : Option (Int32 × ns_St) := ite2 (x0 < x1) (some (x1, σ)) (some (x0, σ))
def g_Integer_numberOfTrailingZeros_62  (σ : ns_St) (x0 : Int32) (x1 : Int32) : Option (Int32 × ns_St) := ite2 (x0 ≤ (4 : Int32)) (some ((x1 + ((x0.toUInt32 >>> ((1 : Int32).toUInt32 &&& Int32.toUInt32 31)).toInt32)), σ)) (bnd (x1 + 2) fun z16 => bnd ((x0.toUInt32 >>> ((2 : Int32).toUInt32 &&& Int32.toUInt32 31)).toInt32) fun z17 => some ((z16 + ((z17.toUInt32 >>> ((1 : Int32).toUInt32 &&& Int32.toUInt32 31)).toInt32)), σ))
def g_Integer_numberOfTrailingZeros_49  (σ : ns_St) (x0 : Int32) (x1 : Int32) : Option (Int32 × ns_St) := ite2 (x0 ≤ (16 : Int32)) (g_Integer_numberOfTrailingZeros_62 σ x0 x1) (bnd (x1 + 4) fun z19 => bnd ((x0.toUInt32 >>> ((4 : Int32).toUInt32 &&& Int32.toUInt32 31)).toInt32) fun z20 => g_Integer_numberOfTrailingZeros_62 σ z20 z19)
def g_Integer_numberOfTrailingZeros_34  (σ : ns_St) (x0 : Int32) (x1 : Int32) : Option (Int32 × ns_St) := ite2 (x0 ≤ (256 : Int32)) (g_Integer_numberOfTrailingZeros_49 σ x0 x1) (bnd (x1 + 8) fun z22 => bnd ((x0.toUInt32 >>> ((8 : Int32).toUInt32 &&& Int32.toUInt32 31)).toInt32) fun z23 => g_Integer_numberOfTrailingZeros_49 σ z23 z22)
def g_Integer_numberOfTrailingZeros (σ : ns_St) (x0 : Int32) : Option (Int32 × ns_St) := bnd ((x0 ^^^ (-1 : Int32)) &&& (x0 - (1 : Int32))) fun z24 => ite2 (0 < z24) (ite2 (z24 ≤ (65536 : Int32)) (g_Integer_numberOfTrailingZeros_34 σ z24 (1 : Int32)) (bnd ((1 : Int32) + 16) fun z27 => bnd ((z24.toUInt32 >>> ((16 : Int32).toUInt32 &&& Int32.toUInt32 31)).toInt32) fun z28 => g_Integer_numberOfTrailingZeros_34 σ z28 z27)) (some ((z24 &&& (32 : Int32)), σ))
def g_Integer_numberOfLeadingZeros_61  (σ : ns_St) (x0 : Int32) (x1 : Int32) : Option (Int32 × ns_St) := ite2 (x0 < (4 : Int32)) (some ((x1 - ((x0.toUInt32 >>> ((1 : Int32).toUInt32 &&& Int32.toUInt32 31)).toInt32)), σ)) (bnd (x1 + (-2)) fun z16 => bnd ((x0.toUInt32 >>> ((2 : Int32).toUInt32 &&& Int32.toUInt32 31)).toInt32) fun z17 => some ((z16 - ((z17.toUInt32 >>> ((1 : Int32).toUInt32 &&& Int32.toUInt32 31)).toInt32)), σ))
def g_Integer_numberOfLeadingZeros_48  (σ : ns_St) (x0 : Int32) (x1 : Int32) : Option (Int32 × ns_St) := ite2 (x0 < (16 : Int32)) (g_Integer_numberOfLeadingZeros_61 σ x0 x1) (bnd (x1 + (-4)) fun z19 => bnd ((x0.toUInt32 >>> ((4 : Int32).toUInt32 &&& Int32.toUInt32 31)).toInt32) fun z20 => g_Integer_numberOfLeadingZeros_61 σ z20 z19)
def g_Integer_numberOfLeadingZeros_33  (σ : ns_St) (x0 : Int32) (x1 : Int32) : Option (Int32 × ns_St) := ite2 (x0 < (256 : Int32)) (g_Integer_numberOfLeadingZeros_48 σ x0 x1) (bnd (x1 + (-8)) fun z22 => bnd ((x0.toUInt32 >>> ((8 : Int32).toUInt32 &&& Int32.toUInt32 31)).toInt32) fun z23 => g_Integer_numberOfLeadingZeros_48 σ z23 z22)
def g_Integer_numberOfLeadingZeros (σ : ns_St) (x0 : Int32) : Option (Int32 × ns_St) := ite2 (0 < x0) (ite2 (x0 < (65536 : Int32)) (g_Integer_numberOfLeadingZeros_33 σ x0 (31 : Int32)) (bnd ((31 : Int32) + (-16)) fun z26 => bnd ((x0.toUInt32 >>> ((16 : Int32).toUInt32 &&& Int32.toUInt32 31)).toInt32) fun z27 => g_Integer_numberOfLeadingZeros_33 σ z27 z26)) (ite2 (x0 = 0) (some ((32 : Int32), σ)) (some ((0 : Int32), σ)))
def g_Long_bitCount (σ : ns_St) (x0 : Int64) : Option (Int32 × ns_St) := bnd (x0 - (((x0.toUInt64 >>> ((1 : Int32).toInt64.toUInt64 &&& Int64.toUInt64 63)).toInt64) &&& (6148914691236517205 : Int64))) fun z7 => bnd ((z7 &&& (3689348814741910323 : Int64)) + (((z7.toUInt64 >>> ((2 : Int32).toInt64.toUInt64 &&& Int64.toUInt64 63)).toInt64) &&& (3689348814741910323 : Int64))) fun z8 => bnd ((z8 + ((z8.toUInt64 >>> ((4 : Int32).toInt64.toUInt64 &&& Int64.toUInt64 63)).toInt64)) &&& (1085102592571150095 : Int64)) fun z9 => bnd (z9 + ((z9.toUInt64 >>> ((8 : Int32).toInt64.toUInt64 &&& Int64.toUInt64 63)).toInt64)) fun z10 => bnd (z10 + ((z10.toUInt64 >>> ((16 : Int32).toInt64.toUInt64 &&& Int64.toUInt64 63)).toInt64)) fun z11 => bnd (z11 + ((z11.toUInt64 >>> ((32 : Int32).toInt64.toUInt64 &&& Int64.toUInt64 63)).toInt64)) fun z12 => some (((z12.toInt32) &&& (127 : Int32)), σ)
def g_Long_numberOfTrailingZeros (σ : ns_St) (x0 : Int64) : Option (Int32 × ns_St) := bnd (x0.toInt32) fun z7 => ite2 (z7 = 0) (cl2 (g_Integer_numberOfTrailingZeros σ (((x0.toUInt64 >>> ((32 : Int32).toInt64.toUInt64 &&& Int64.toUInt64 63)).toInt64).toInt32)) fun r12 σ11 => some (((32 : Int32) + r12), σ11)) (cl2 (g_Integer_numberOfTrailingZeros σ z7) fun r10 σ9 => some (r10, σ9))
def g_Long_numberOfLeadingZeros (σ : ns_St) (x0 : Int64) : Option (Int32 × ns_St) := bnd (((x0.toUInt64 >>> ((32 : Int32).toInt64.toUInt64 &&& Int64.toUInt64 63)).toInt64).toInt32) fun z7 => ite2 (z7 = 0) (cl2 (g_Integer_numberOfLeadingZeros σ (x0.toInt32)) fun r12 σ11 => some (((32 : Int32) + r12), σ11)) (cl2 (g_Integer_numberOfLeadingZeros σ z7) fun r10 σ9 => some (r10, σ9))
def g_Mule_mayStop (σ : ns_St) (a0 : Nat) (a1 : Nat) : Option (Int32 × ns_St) := grd (ns_kd a0 = 2) <| grd (ns_kd a1 = 1) <| ite2 ((σ.1 a0 3) < (σ.1 a0 1)) (some ((0 : Int32), σ)) (ite2 ((σ.1 a0 0) = (3 : Int32)) (ite2 ((lg_cmp ((((σ.2.1 a1 3).toUInt64 >>> ((σ.1 a0 2).toInt64.toUInt64 &&& Int64.toUInt64 63)).toInt64) &&& (1 : Int64)) (0 : Int64)) = 0) (some ((1 : Int32), σ)) (some ((0 : Int32), σ))) (some ((1 : Int32), σ)))
def g_Mule_makeStep_110  (σ : ns_St) (a0 : Nat) (x3 : Int32) (x4 : Int32) : Option (Int32 × ns_St) := ite2 (x3 = 0) (grd (x4 = 0 ∨ x4 = 1) <| some (x4, σ)) (ite2 ((σ.1 a0 0) = (4 : Int32)) (cl2 (g_Math_min σ (64 : Int32) ((2 : Int32) * (σ.1 a0 1))) fun r26 σ25 => bnd (ns_pI σ25 a0 1 r26) fun σ27 => grd (x4 = 0 ∨ x4 = 1) <| some (x4, σ27)) (grd (x4 = 0 ∨ x4 = 1) <| some (x4, σ)))
def g_Mule_makeStep_98  (σ : ns_St) (s0 : Int32) (a0 : Nat) (x3 : Int32) : Option (Int32 × ns_St) := ite2 (s0 = 0) (g_Mule_makeStep_110 σ a0 x3 s0) (bnd (ns_pI σ a0 3 (0 : Int32)) fun σ30 => g_Mule_makeStep_110 σ30 a0 x3 s0)
def g_Mule_makeStep_93  (σ : ns_St) (a0 : Nat) (x3 : Int32) : Option (Int32 × ns_St) := g_Mule_makeStep_98 σ (1 : Int32) a0 x3
def g_Mule_makeStep_97  (σ : ns_St) (a0 : Nat) (x3 : Int32) : Option (Int32 × ns_St) := g_Mule_makeStep_98 σ (0 : Int32) a0 x3
def g_Mule_makeStep_72  (σ : ns_St) (s0 : Int32) (a0 : Nat) (a1 : Nat) : Option (Int32 × ns_St) := cl2 (g_Mule_mayStop σ a0 a1) fun r32 σ31 => ite2 (r32 = 0) (ite2 (s0 = 0) (g_Mule_makeStep_97 σ31 a0 s0) (ite2 ((σ31.1 a0 0) = (5 : Int32)) (g_Mule_makeStep_93 σ31 a0 s0) (g_Mule_makeStep_97 σ31 a0 s0))) (g_Mule_makeStep_93 σ31 a0 s0)
def g_Mule_makeStep_51  (σ : ns_St) (a0 : Nat) (a1 : Nat) : Option (Int32 × ns_St) := ite2 ((lg_cmp ((((σ.2.1 a1 2).toUInt64 >>> ((σ.1 a0 2).toInt64.toUInt64 &&& Int64.toUInt64 63)).toInt64) &&& (1 : Int64)) (0 : Int64)) = 0) (g_Mule_makeStep_72 σ (0 : Int32) a0 a1) (g_Mule_makeStep_72 σ (1 : Int32) a0 a1)
def g_Mule_makeStep (σ : ns_St) (a0 : Nat) (a1 : Nat) (x2 : Int32) : Option (Int32 × ns_St) := grd (ns_kd a0 = 2) <| grd (ns_kd a1 = 1) <| bnd (ns_pI σ a0 2 ((σ.1 a0 2) + (1 : Int32))) fun σ37 => bnd (ns_pI σ37 a0 3 ((σ37.1 a0 3) + ((1 : Int32) + x2))) fun σ38 => ite2 ((lg_cmp ((((σ38.2.1 a1 1).toUInt64 >>> ((σ38.1 a0 2).toInt64.toUInt64 &&& Int64.toUInt64 63)).toInt64) &&& (1 : Int64)) (0 : Int64)) = 0) (g_Mule_makeStep_51 σ38 a0 a1) (bnd (ns_pI σ38 a0 3 ((σ38.1 a0 3) + (σ38.1 a0 7))) fun σ40 => g_Mule_makeStep_51 σ40 a0 a1)
def g_Ground_allOf (σ : ns_St) (a0 : Nat) (x1 : Int32) : Option (Int64 × ns_St) := grd (ns_kd a0 = 1) <| ite2 (x1 = 0) (some ((σ.2.1 a0 1), σ)) (ite2 (x1 = 1) (some ((σ.2.1 a0 2), σ)) (ite2 (x1 = 2) (some ((σ.2.1 a0 3), σ)) (some ((σ.2.1 a0 4), σ))))
theorem c_Math_min (G : ns_G) (l : Launch) (σ : ns_St) (x0 : Int32) (x1 : Int32) {r : Int32} {σ' : ns_St} (hf : g_Math_min σ x0 x1 = some (r, σ')) : ns_ok G l ⟨"java/lang/Math", "min", "(II)I"⟩ prog_14_method_69_code 2 (some .int) 0 0 0 0 [.int x0, .int x1] ns_N σ (some (.int r)) ns_N σ' := by
  refine v_openF (by decide +kernel) (Nat.le_of_ble_eq_true rfl) rfl ?_
  intro p e s m below meth c C hr _
  have C : ns_Cx G p s m _ meth c prog_14_method_69_code "java/lang/Math" 2 := C
  unfold g_Math_min at hf
  refine v_iload_n C 0 0 rfl 1 rfl (by decide +kernel) ?_
  refine v_iload_n C 1 1 rfl 2 rfl (by decide +kernel) ?_
  refine v_icmp_gt C 9 5 rfl (by decide +kernel) (fun h2 => ?_) (fun h2 => ?_)
  · have hf := ite2_t hf h2
    refine v_iload_n C 1 1 rfl 10 rfl (by decide +kernel) ?_
    cases hf
    exact v_iret C hr (by decide +kernel)
  · have hf := ite2_f hf h2
    refine v_iload_n C 0 0 rfl 6 rfl (by decide +kernel) ?_
    refine v_goto C 10 (by decide +kernel) ?_
    cases hf
    exact v_iret C hr (by decide +kernel)
theorem hd_Math_min : (⟨"java/lang/Math", "min", "(II)I"⟩ : MethodName).cls ≠ "java/lang/invoke/MethodHandle" ∧ (⟨"java/lang/Math", "min", "(II)I"⟩ : MethodName).cls ≠ "java/lang/invoke/VarHandle" ∧ (parseMethodDescriptor (⟨"java/lang/Math", "min", "(II)I"⟩ : MethodName).desc).map (fun d => d.parameters.length) = some 2 := by decide +kernel
theorem c_Math_max (G : ns_G) (l : Launch) (σ : ns_St) (x0 : Int32) (x1 : Int32) {r : Int32} {σ' : ns_St} (hf : g_Math_max σ x0 x1 = some (r, σ')) : ns_ok G l ⟨"java/lang/Math", "max", "(II)I"⟩ prog_14_method_65_code 2 (some .int) 0 0 0 0 [.int x0, .int x1] ns_N σ (some (.int r)) ns_N σ' := by
  refine v_openF (by decide +kernel) (Nat.le_of_ble_eq_true rfl) rfl ?_
  intro p e s m below meth c C hr _
  have C : ns_Cx G p s m _ meth c prog_14_method_65_code "java/lang/Math" 2 := C
  unfold g_Math_max at hf
  refine v_iload_n C 0 0 rfl 1 rfl (by decide +kernel) ?_
  refine v_iload_n C 1 1 rfl 2 rfl (by decide +kernel) ?_
  refine v_icmp_lt C 9 5 rfl (by decide +kernel) (fun h2 => ?_) (fun h2 => ?_)
  · have hf := ite2_t hf h2
    refine v_iload_n C 1 1 rfl 10 rfl (by decide +kernel) ?_
    cases hf
    exact v_iret C hr (by decide +kernel)
  · have hf := ite2_f hf h2
    refine v_iload_n C 0 0 rfl 6 rfl (by decide +kernel) ?_
    refine v_goto C 10 (by decide +kernel) ?_
    cases hf
    exact v_iret C hr (by decide +kernel)
theorem hd_Math_max : (⟨"java/lang/Math", "max", "(II)I"⟩ : MethodName).cls ≠ "java/lang/invoke/MethodHandle" ∧ (⟨"java/lang/Math", "max", "(II)I"⟩ : MethodName).cls ≠ "java/lang/invoke/VarHandle" ∧ (parseMethodDescriptor (⟨"java/lang/Math", "max", "(II)I"⟩ : MethodName).desc).map (fun d => d.parameters.length) = some 2 := by decide +kernel
theorem t_Integer_numberOfTrailingZeros_62 (G : ns_G) (l : Launch) {p : Program} {e : Env} {s : State} {m : MethodId} {args : Array Value} {below : List Frame} {meth : Method} {c : Code} (C : ns_Cx G p s m args meth c prog_12_method_48_code "java/lang/Integer" 2) (hr : meth.sig.returnType = (some .int)) {r : Int32} {σ' : ns_St}  (σ : ns_St) (x0 : Int32) (x1 : Int32)  (hf : g_Integer_numberOfTrailingZeros_62 σ x0 x1 = some (r, σ')) : VV G p l e { frames := 0, cells := 0, slots := 0, locals := 0 } s m args below meth c 2 0 0 (MQ below (ns_Qc G (some (.int r)) ns_N σ') args s 0 0 (ns_A G)) ns_N σ 62 [(0, .int x0), (1, .int x1)] [] := by
  unfold g_Integer_numberOfTrailingZeros_62 at hf
  refine v_iload_n C 0 0 rfl 63 rfl (by decide +kernel) ?_
  refine v_iconst C (4) (4) (by decide) 64 rfl (by decide +kernel) ?_
  refine v_icmp_le C 74 67 rfl (by decide +kernel) (fun h15 => ?_) (fun h15 => ?_)
  · have hf := ite2_t hf h15
    refine v_iload_n C 1 1 rfl 75 rfl (by decide +kernel) ?_
    refine v_iload_n C 0 0 rfl 76 rfl (by decide +kernel) ?_
    refine v_iconst C (1) (1) (by decide) 77 rfl (by decide +kernel) ?_
    refine v_iushr C 78 rfl (by decide +kernel) ?_
    refine v_iadd C 79 rfl (by decide +kernel) ?_
    cases hf
    exact v_iret C hr (by decide +kernel)
  · have hf := ite2_f hf h15
    obtain ⟨z16, hz16, hf⟩ := bnd_e hf
    refine v_iinc C 1 (2) 1 z16 rfl (by rw [hz16]; rfl) [(1, .int z16), (0, .int x0)] (by decide) rfl 70 rfl (by decide +kernel) ?_
    refine v_iload_n C 0 1 rfl 71 rfl (by decide +kernel) ?_
    refine v_iconst C (2) (2) (by decide) 72 rfl (by decide +kernel) ?_
    refine v_iushr C 73 rfl (by decide +kernel) ?_
    obtain ⟨z17, hz17, hf⟩ := bnd_e hf
    refine v_nmI hz17 ?_
    refine v_istore_n C 0 [(0, .int z17), (1, .int z16)] (by decide) rfl 74 rfl (by decide +kernel) ?_
    refine v_iload_n C 1 1 rfl 75 rfl (by decide +kernel) ?_
    refine v_iload_n C 0 0 rfl 76 rfl (by decide +kernel) ?_
    refine v_iconst C (1) (1) (by decide) 77 rfl (by decide +kernel) ?_
    refine v_iushr C 78 rfl (by decide +kernel) ?_
    refine v_iadd C 79 rfl (by decide +kernel) ?_
    cases hf
    exact v_iret C hr (by decide +kernel)
theorem t_Integer_numberOfTrailingZeros_49 (G : ns_G) (l : Launch) {p : Program} {e : Env} {s : State} {m : MethodId} {args : Array Value} {below : List Frame} {meth : Method} {c : Code} (C : ns_Cx G p s m args meth c prog_12_method_48_code "java/lang/Integer" 2) (hr : meth.sig.returnType = (some .int)) {r : Int32} {σ' : ns_St}  (σ : ns_St) (x0 : Int32) (x1 : Int32)  (hf : g_Integer_numberOfTrailingZeros_49 σ x0 x1 = some (r, σ')) : VV G p l e { frames := 0, cells := 0, slots := 0, locals := 0 } s m args below meth c 2 0 0 (MQ below (ns_Qc G (some (.int r)) ns_N σ') args s 0 0 (ns_A G)) ns_N σ 49 [(0, .int x0), (1, .int x1)] [] := by
  unfold g_Integer_numberOfTrailingZeros_49 at hf
  refine v_iload_n C 0 0 rfl 50 rfl (by decide +kernel) ?_
  refine v_bipush C (16) (16) (by decide) 52 rfl (by decide +kernel) ?_
  refine v_icmp_le C 62 55 rfl (by decide +kernel) (fun h18 => ?_) (fun h18 => ?_)
  · have hf := ite2_t hf h18
    exact t_Integer_numberOfTrailingZeros_62 G l C hr  σ x0 x1 hf
  · have hf := ite2_f hf h18
    obtain ⟨z19, hz19, hf⟩ := bnd_e hf
    refine v_iinc C 1 (4) 1 z19 rfl (by rw [hz19]; rfl) [(1, .int z19), (0, .int x0)] (by decide) rfl 58 rfl (by decide +kernel) ?_
    refine v_iload_n C 0 1 rfl 59 rfl (by decide +kernel) ?_
    refine v_iconst C (4) (4) (by decide) 60 rfl (by decide +kernel) ?_
    refine v_iushr C 61 rfl (by decide +kernel) ?_
    obtain ⟨z20, hz20, hf⟩ := bnd_e hf
    refine v_nmI hz20 ?_
    refine v_istore_n C 0 [(0, .int z20), (1, .int z19)] (by decide) rfl 62 rfl (by decide +kernel) ?_
    exact t_Integer_numberOfTrailingZeros_62 G l C hr  σ z20 z19 hf
theorem t_Integer_numberOfTrailingZeros_34 (G : ns_G) (l : Launch) {p : Program} {e : Env} {s : State} {m : MethodId} {args : Array Value} {below : List Frame} {meth : Method} {c : Code} (C : ns_Cx G p s m args meth c prog_12_method_48_code "java/lang/Integer" 2) (hr : meth.sig.returnType = (some .int)) {r : Int32} {σ' : ns_St}  (σ : ns_St) (x0 : Int32) (x1 : Int32)  (hf : g_Integer_numberOfTrailingZeros_34 σ x0 x1 = some (r, σ')) : VV G p l e { frames := 0, cells := 0, slots := 0, locals := 0 } s m args below meth c 2 0 0 (MQ below (ns_Qc G (some (.int r)) ns_N σ') args s 0 0 (ns_A G)) ns_N σ 34 [(0, .int x0), (1, .int x1)] [] := by
  unfold g_Integer_numberOfTrailingZeros_34 at hf
  refine v_iload_n C 0 0 rfl 35 rfl (by decide +kernel) ?_
  refine v_sipush C (256) (256) (by decide) 38 rfl (by decide +kernel) ?_
  refine v_icmp_le C 49 41 rfl (by decide +kernel) (fun h21 => ?_) (fun h21 => ?_)
  · have hf := ite2_t hf h21
    exact t_Integer_numberOfTrailingZeros_49 G l C hr  σ x0 x1 hf
  · have hf := ite2_f hf h21
    obtain ⟨z22, hz22, hf⟩ := bnd_e hf
    refine v_iinc C 1 (8) 1 z22 rfl (by rw [hz22]; rfl) [(1, .int z22), (0, .int x0)] (by decide) rfl 44 rfl (by decide +kernel) ?_
    refine v_iload_n C 0 1 rfl 45 rfl (by decide +kernel) ?_
    refine v_bipush C (8) (8) (by decide) 47 rfl (by decide +kernel) ?_
    refine v_iushr C 48 rfl (by decide +kernel) ?_
    obtain ⟨z23, hz23, hf⟩ := bnd_e hf
    refine v_nmI hz23 ?_
    refine v_istore_n C 0 [(0, .int z23), (1, .int z22)] (by decide) rfl 49 rfl (by decide +kernel) ?_
    exact t_Integer_numberOfTrailingZeros_49 G l C hr  σ z23 z22 hf
theorem c_Integer_numberOfTrailingZeros (G : ns_G) (l : Launch) (σ : ns_St) (x0 : Int32) {r : Int32} {σ' : ns_St} (hf : g_Integer_numberOfTrailingZeros σ x0 = some (r, σ')) : ns_ok G l ⟨"java/lang/Integer", "numberOfTrailingZeros", "(I)I"⟩ prog_12_method_48_code 2 (some .int) 0 0 0 0 [.int x0] ns_N σ (some (.int r)) ns_N σ' := by
  refine v_openF (by decide +kernel) (Nat.le_of_ble_eq_true rfl) rfl ?_
  intro p e s m below meth c C hr _
  have C : ns_Cx G p s m _ meth c prog_12_method_48_code "java/lang/Integer" 2 := C
  unfold g_Integer_numberOfTrailingZeros at hf
  refine v_iload_n C 0 0 rfl 1 rfl (by decide +kernel) ?_
  refine v_iconst C (-1) (-1) (by decide) 2 rfl (by decide +kernel) ?_
  refine v_ixor C 3 rfl (by decide +kernel) ?_
  refine v_iload_n C 0 0 rfl 4 rfl (by decide +kernel) ?_
  refine v_iconst C (1) (1) (by decide) 5 rfl (by decide +kernel) ?_
  refine v_isub C 6 rfl (by decide +kernel) ?_
  refine v_iand C 7 rfl (by decide +kernel) ?_
  obtain ⟨z24, hz24, hf⟩ := bnd_e hf
  refine v_nmI hz24 ?_
  refine v_istore_n C 0 [(0, .int z24)] (by decide) rfl 8 rfl (by decide +kernel) ?_
  refine v_iload_n C 0 0 rfl 9 rfl (by decide +kernel) ?_
  refine v_if_gt C 17 12 rfl (by decide +kernel) (fun h25 => ?_) (fun h25 => ?_)
  · have hf := ite2_t hf h25
    refine v_iconst C (1) (1) (by decide) 18 rfl (by decide +kernel) ?_
    refine v_istore_n C 1 [(1, .int (1 : Int32)), (0, .int z24)] (by decide) rfl 19 rfl (by decide +kernel) ?_
    refine v_iload_n C 0 1 rfl 20 rfl (by decide +kernel) ?_
    refine v_ldcw C 264 (65536) tw_423 23 rfl (by decide +kernel) ?_
    refine v_icmp_le C 34 26 rfl (by decide +kernel) (fun h26 => ?_) (fun h26 => ?_)
    · have hf := ite2_t hf h26
      refine v_sub [1, 0] rfl ?_
      exact t_Integer_numberOfTrailingZeros_34 G l C hr  σ z24 (1 : Int32) hf
    · have hf := ite2_f hf h26
      obtain ⟨z27, hz27, hf⟩ := bnd_e hf
      refine v_iinc C 1 (16) 0 z27 rfl (by rw [hz27]; rfl) [(1, .int z27), (0, .int z24)] (by decide) rfl 29 rfl (by decide +kernel) ?_
      refine v_iload_n C 0 1 rfl 30 rfl (by decide +kernel) ?_
      refine v_bipush C (16) (16) (by decide) 32 rfl (by decide +kernel) ?_
      refine v_iushr C 33 rfl (by decide +kernel) ?_
      obtain ⟨z28, hz28, hf⟩ := bnd_e hf
      refine v_nmI hz28 ?_
      refine v_istore_n C 0 [(0, .int z28), (1, .int z27)] (by decide) rfl 34 rfl (by decide +kernel) ?_
      exact t_Integer_numberOfTrailingZeros_34 G l C hr  σ z28 z27 hf
  · have hf := ite2_f hf h25
    refine v_iload_n C 0 0 rfl 13 rfl (by decide +kernel) ?_
    refine v_bipush C (32) (32) (by decide) 15 rfl (by decide +kernel) ?_
    refine v_iand C 16 rfl (by decide +kernel) ?_
    cases hf
    exact v_iret C hr (by decide +kernel)
theorem hd_Integer_numberOfTrailingZeros : (⟨"java/lang/Integer", "numberOfTrailingZeros", "(I)I"⟩ : MethodName).cls ≠ "java/lang/invoke/MethodHandle" ∧ (⟨"java/lang/Integer", "numberOfTrailingZeros", "(I)I"⟩ : MethodName).cls ≠ "java/lang/invoke/VarHandle" ∧ (parseMethodDescriptor (⟨"java/lang/Integer", "numberOfTrailingZeros", "(I)I"⟩ : MethodName).desc).map (fun d => d.parameters.length) = some 1 := by decide +kernel
theorem t_Integer_numberOfLeadingZeros_61 (G : ns_G) (l : Launch) {p : Program} {e : Env} {s : State} {m : MethodId} {args : Array Value} {below : List Frame} {meth : Method} {c : Code} (C : ns_Cx G p s m args meth c prog_12_method_47_code "java/lang/Integer" 2) (hr : meth.sig.returnType = (some .int)) {r : Int32} {σ' : ns_St}  (σ : ns_St) (x0 : Int32) (x1 : Int32)  (hf : g_Integer_numberOfLeadingZeros_61 σ x0 x1 = some (r, σ')) : VV G p l e { frames := 0, cells := 0, slots := 0, locals := 0 } s m args below meth c 2 0 0 (MQ below (ns_Qc G (some (.int r)) ns_N σ') args s 0 0 (ns_A G)) ns_N σ 61 [(0, .int x0), (1, .int x1)] [] := by
  unfold g_Integer_numberOfLeadingZeros_61 at hf
  refine v_iload_n C 0 0 rfl 62 rfl (by decide +kernel) ?_
  refine v_iconst C (4) (4) (by decide) 63 rfl (by decide +kernel) ?_
  refine v_icmp_lt C 73 66 rfl (by decide +kernel) (fun h15 => ?_) (fun h15 => ?_)
  · have hf := ite2_t hf h15
    refine v_iload_n C 1 1 rfl 74 rfl (by decide +kernel) ?_
    refine v_iload_n C 0 0 rfl 75 rfl (by decide +kernel) ?_
    refine v_iconst C (1) (1) (by decide) 76 rfl (by decide +kernel) ?_
    refine v_iushr C 77 rfl (by decide +kernel) ?_
    refine v_isub C 78 rfl (by decide +kernel) ?_
    cases hf
    exact v_iret C hr (by decide +kernel)
  · have hf := ite2_f hf h15
    obtain ⟨z16, hz16, hf⟩ := bnd_e hf
    refine v_iinc C 1 (-2) 1 z16 rfl (by rw [hz16]; rfl) [(1, .int z16), (0, .int x0)] (by decide) rfl 69 rfl (by decide +kernel) ?_
    refine v_iload_n C 0 1 rfl 70 rfl (by decide +kernel) ?_
    refine v_iconst C (2) (2) (by decide) 71 rfl (by decide +kernel) ?_
    refine v_iushr C 72 rfl (by decide +kernel) ?_
    obtain ⟨z17, hz17, hf⟩ := bnd_e hf
    refine v_nmI hz17 ?_
    refine v_istore_n C 0 [(0, .int z17), (1, .int z16)] (by decide) rfl 73 rfl (by decide +kernel) ?_
    refine v_iload_n C 1 1 rfl 74 rfl (by decide +kernel) ?_
    refine v_iload_n C 0 0 rfl 75 rfl (by decide +kernel) ?_
    refine v_iconst C (1) (1) (by decide) 76 rfl (by decide +kernel) ?_
    refine v_iushr C 77 rfl (by decide +kernel) ?_
    refine v_isub C 78 rfl (by decide +kernel) ?_
    cases hf
    exact v_iret C hr (by decide +kernel)
theorem t_Integer_numberOfLeadingZeros_48 (G : ns_G) (l : Launch) {p : Program} {e : Env} {s : State} {m : MethodId} {args : Array Value} {below : List Frame} {meth : Method} {c : Code} (C : ns_Cx G p s m args meth c prog_12_method_47_code "java/lang/Integer" 2) (hr : meth.sig.returnType = (some .int)) {r : Int32} {σ' : ns_St}  (σ : ns_St) (x0 : Int32) (x1 : Int32)  (hf : g_Integer_numberOfLeadingZeros_48 σ x0 x1 = some (r, σ')) : VV G p l e { frames := 0, cells := 0, slots := 0, locals := 0 } s m args below meth c 2 0 0 (MQ below (ns_Qc G (some (.int r)) ns_N σ') args s 0 0 (ns_A G)) ns_N σ 48 [(0, .int x0), (1, .int x1)] [] := by
  unfold g_Integer_numberOfLeadingZeros_48 at hf
  refine v_iload_n C 0 0 rfl 49 rfl (by decide +kernel) ?_
  refine v_bipush C (16) (16) (by decide) 51 rfl (by decide +kernel) ?_
  refine v_icmp_lt C 61 54 rfl (by decide +kernel) (fun h18 => ?_) (fun h18 => ?_)
  · have hf := ite2_t hf h18
    exact t_Integer_numberOfLeadingZeros_61 G l C hr  σ x0 x1 hf
  · have hf := ite2_f hf h18
    obtain ⟨z19, hz19, hf⟩ := bnd_e hf
    refine v_iinc C 1 (-4) 1 z19 rfl (by rw [hz19]; rfl) [(1, .int z19), (0, .int x0)] (by decide) rfl 57 rfl (by decide +kernel) ?_
    refine v_iload_n C 0 1 rfl 58 rfl (by decide +kernel) ?_
    refine v_iconst C (4) (4) (by decide) 59 rfl (by decide +kernel) ?_
    refine v_iushr C 60 rfl (by decide +kernel) ?_
    obtain ⟨z20, hz20, hf⟩ := bnd_e hf
    refine v_nmI hz20 ?_
    refine v_istore_n C 0 [(0, .int z20), (1, .int z19)] (by decide) rfl 61 rfl (by decide +kernel) ?_
    exact t_Integer_numberOfLeadingZeros_61 G l C hr  σ z20 z19 hf
theorem t_Integer_numberOfLeadingZeros_33 (G : ns_G) (l : Launch) {p : Program} {e : Env} {s : State} {m : MethodId} {args : Array Value} {below : List Frame} {meth : Method} {c : Code} (C : ns_Cx G p s m args meth c prog_12_method_47_code "java/lang/Integer" 2) (hr : meth.sig.returnType = (some .int)) {r : Int32} {σ' : ns_St}  (σ : ns_St) (x0 : Int32) (x1 : Int32)  (hf : g_Integer_numberOfLeadingZeros_33 σ x0 x1 = some (r, σ')) : VV G p l e { frames := 0, cells := 0, slots := 0, locals := 0 } s m args below meth c 2 0 0 (MQ below (ns_Qc G (some (.int r)) ns_N σ') args s 0 0 (ns_A G)) ns_N σ 33 [(0, .int x0), (1, .int x1)] [] := by
  unfold g_Integer_numberOfLeadingZeros_33 at hf
  refine v_iload_n C 0 0 rfl 34 rfl (by decide +kernel) ?_
  refine v_sipush C (256) (256) (by decide) 37 rfl (by decide +kernel) ?_
  refine v_icmp_lt C 48 40 rfl (by decide +kernel) (fun h21 => ?_) (fun h21 => ?_)
  · have hf := ite2_t hf h21
    exact t_Integer_numberOfLeadingZeros_48 G l C hr  σ x0 x1 hf
  · have hf := ite2_f hf h21
    obtain ⟨z22, hz22, hf⟩ := bnd_e hf
    refine v_iinc C 1 (-8) 1 z22 rfl (by rw [hz22]; rfl) [(1, .int z22), (0, .int x0)] (by decide) rfl 43 rfl (by decide +kernel) ?_
    refine v_iload_n C 0 1 rfl 44 rfl (by decide +kernel) ?_
    refine v_bipush C (8) (8) (by decide) 46 rfl (by decide +kernel) ?_
    refine v_iushr C 47 rfl (by decide +kernel) ?_
    obtain ⟨z23, hz23, hf⟩ := bnd_e hf
    refine v_nmI hz23 ?_
    refine v_istore_n C 0 [(0, .int z23), (1, .int z22)] (by decide) rfl 48 rfl (by decide +kernel) ?_
    exact t_Integer_numberOfLeadingZeros_48 G l C hr  σ z23 z22 hf
theorem c_Integer_numberOfLeadingZeros (G : ns_G) (l : Launch) (σ : ns_St) (x0 : Int32) {r : Int32} {σ' : ns_St} (hf : g_Integer_numberOfLeadingZeros σ x0 = some (r, σ')) : ns_ok G l ⟨"java/lang/Integer", "numberOfLeadingZeros", "(I)I"⟩ prog_12_method_47_code 2 (some .int) 0 0 0 0 [.int x0] ns_N σ (some (.int r)) ns_N σ' := by
  refine v_openF (by decide +kernel) (Nat.le_of_ble_eq_true rfl) rfl ?_
  intro p e s m below meth c C hr _
  have C : ns_Cx G p s m _ meth c prog_12_method_47_code "java/lang/Integer" 2 := C
  unfold g_Integer_numberOfLeadingZeros at hf
  refine v_iload_n C 0 0 rfl 1 rfl (by decide +kernel) ?_
  refine v_if_gt C 15 4 rfl (by decide +kernel) (fun h24 => ?_) (fun h24 => ?_)
  · have hf := ite2_t hf h24
    refine v_bipush C (31) (31) (by decide) 17 rfl (by decide +kernel) ?_
    refine v_istore_n C 1 [(1, .int (31 : Int32)), (0, .int x0)] (by decide) rfl 18 rfl (by decide +kernel) ?_
    refine v_iload_n C 0 1 rfl 19 rfl (by decide +kernel) ?_
    refine v_ldcw C 264 (65536) tw_423 22 rfl (by decide +kernel) ?_
    refine v_icmp_lt C 33 25 rfl (by decide +kernel) (fun h25 => ?_) (fun h25 => ?_)
    · have hf := ite2_t hf h25
      refine v_sub [1, 0] rfl ?_
      exact t_Integer_numberOfLeadingZeros_33 G l C hr  σ x0 (31 : Int32) hf
    · have hf := ite2_f hf h25
      obtain ⟨z26, hz26, hf⟩ := bnd_e hf
      refine v_iinc C 1 (-16) 0 z26 rfl (by rw [hz26]; rfl) [(1, .int z26), (0, .int x0)] (by decide) rfl 28 rfl (by decide +kernel) ?_
      refine v_iload_n C 0 1 rfl 29 rfl (by decide +kernel) ?_
      refine v_bipush C (16) (16) (by decide) 31 rfl (by decide +kernel) ?_
      refine v_iushr C 32 rfl (by decide +kernel) ?_
      obtain ⟨z27, hz27, hf⟩ := bnd_e hf
      refine v_nmI hz27 ?_
      refine v_istore_n C 0 [(0, .int z27), (1, .int z26)] (by decide) rfl 33 rfl (by decide +kernel) ?_
      exact t_Integer_numberOfLeadingZeros_33 G l C hr  σ z27 z26 hf
  · have hf := ite2_f hf h24
    refine v_iload_n C 0 0 rfl 5 rfl (by decide +kernel) ?_
    refine v_if_ne C 13 8 rfl (by decide +kernel) (fun h28 => ?_) (fun h28 => ?_)
    · have hf := ite2_f hf h28
      refine v_iconst C (0) (0) (by decide) 14 rfl (by decide +kernel) ?_
      cases hf
      exact v_iret C hr (by decide +kernel)
    · have hf := ite2_t hf h28
      refine v_bipush C (32) (32) (by decide) 10 rfl (by decide +kernel) ?_
      refine v_goto C 14 (by decide +kernel) ?_
      cases hf
      exact v_iret C hr (by decide +kernel)
theorem hd_Integer_numberOfLeadingZeros : (⟨"java/lang/Integer", "numberOfLeadingZeros", "(I)I"⟩ : MethodName).cls ≠ "java/lang/invoke/MethodHandle" ∧ (⟨"java/lang/Integer", "numberOfLeadingZeros", "(I)I"⟩ : MethodName).cls ≠ "java/lang/invoke/VarHandle" ∧ (parseMethodDescriptor (⟨"java/lang/Integer", "numberOfLeadingZeros", "(I)I"⟩ : MethodName).desc).map (fun d => d.parameters.length) = some 1 := by decide +kernel
theorem c_Long_bitCount (G : ns_G) (l : Launch) (σ : ns_St) (x0 : Int64) {r : Int32} {σ' : ns_St} (hf : g_Long_bitCount σ x0 = some (r, σ')) : ns_ok G l ⟨"java/lang/Long", "bitCount", "(J)I"⟩ prog_13_method_50_code 2 (some .int) 0 0 0 0 [.long x0] ns_N σ (some (.int r)) ns_N σ' := by
  refine v_openF (by decide +kernel) (Nat.le_of_ble_eq_true rfl) rfl ?_
  intro p e s m below meth c C hr _
  have C : ns_Cx G p s m _ meth c prog_13_method_50_code "java/lang/Long" 2 := C
  unfold g_Long_bitCount at hf
  refine v_lload_n C 0 0 rfl 1 rfl (by decide +kernel) ?_
  refine v_lload_n C 0 0 rfl 2 rfl (by decide +kernel) ?_
  refine v_iconst C (1) (1) (by decide) 3 rfl (by decide +kernel) ?_
  refine v_lushr C 4 rfl (by decide +kernel) ?_
  refine v_ldc2 C 314 (6148914691236517205) tw_411 7 rfl (by decide +kernel) ?_
  refine v_land C 8 rfl (by decide +kernel) ?_
  refine v_lsub C 9 rfl (by decide +kernel) ?_
  obtain ⟨z7, hz7, hf⟩ := bnd_e hf
  refine v_nmJ hz7 ?_
  refine v_lstore_n C 0 [(0, .long z7)] (by decide) rfl 10 rfl (by decide +kernel) ?_
  refine v_lload_n C 0 0 rfl 11 rfl (by decide +kernel) ?_
  refine v_ldc2 C 316 (3689348814741910323) tw_412 14 rfl (by decide +kernel) ?_
  refine v_land C 15 rfl (by decide +kernel) ?_
  refine v_lload_n C 0 0 rfl 16 rfl (by decide +kernel) ?_
  refine v_iconst C (2) (2) (by decide) 17 rfl (by decide +kernel) ?_
  refine v_lushr C 18 rfl (by decide +kernel) ?_
  refine v_ldc2 C 316 (3689348814741910323) tw_412 21 rfl (by decide +kernel) ?_
  refine v_land C 22 rfl (by decide +kernel) ?_
  refine v_ladd C 23 rfl (by decide +kernel) ?_
  obtain ⟨z8, hz8, hf⟩ := bnd_e hf
  refine v_nmJ hz8 ?_
  refine v_lstore_n C 0 [(0, .long z8)] (by decide) rfl 24 rfl (by decide +kernel) ?_
  refine v_lload_n C 0 0 rfl 25 rfl (by decide +kernel) ?_
  refine v_lload_n C 0 0 rfl 26 rfl (by decide +kernel) ?_
  refine v_iconst C (4) (4) (by decide) 27 rfl (by decide +kernel) ?_
  refine v_lushr C 28 rfl (by decide +kernel) ?_
  refine v_ladd C 29 rfl (by decide +kernel) ?_
  refine v_ldc2 C 318 (1085102592571150095) tw_413 32 rfl (by decide +kernel) ?_
  refine v_land C 33 rfl (by decide +kernel) ?_
  obtain ⟨z9, hz9, hf⟩ := bnd_e hf
  refine v_nmJ hz9 ?_
  refine v_lstore_n C 0 [(0, .long z9)] (by decide) rfl 34 rfl (by decide +kernel) ?_
  refine v_lload_n C 0 0 rfl 35 rfl (by decide +kernel) ?_
  refine v_lload_n C 0 0 rfl 36 rfl (by decide +kernel) ?_
  refine v_bipush C (8) (8) (by decide) 38 rfl (by decide +kernel) ?_
  refine v_lushr C 39 rfl (by decide +kernel) ?_
  refine v_ladd C 40 rfl (by decide +kernel) ?_
  obtain ⟨z10, hz10, hf⟩ := bnd_e hf
  refine v_nmJ hz10 ?_
  refine v_lstore_n C 0 [(0, .long z10)] (by decide) rfl 41 rfl (by decide +kernel) ?_
  refine v_lload_n C 0 0 rfl 42 rfl (by decide +kernel) ?_
  refine v_lload_n C 0 0 rfl 43 rfl (by decide +kernel) ?_
  refine v_bipush C (16) (16) (by decide) 45 rfl (by decide +kernel) ?_
  refine v_lushr C 46 rfl (by decide +kernel) ?_
  refine v_ladd C 47 rfl (by decide +kernel) ?_
  obtain ⟨z11, hz11, hf⟩ := bnd_e hf
  refine v_nmJ hz11 ?_
  refine v_lstore_n C 0 [(0, .long z11)] (by decide) rfl 48 rfl (by decide +kernel) ?_
  refine v_lload_n C 0 0 rfl 49 rfl (by decide +kernel) ?_
  refine v_lload_n C 0 0 rfl 50 rfl (by decide +kernel) ?_
  refine v_bipush C (32) (32) (by decide) 52 rfl (by decide +kernel) ?_
  refine v_lushr C 53 rfl (by decide +kernel) ?_
  refine v_ladd C 54 rfl (by decide +kernel) ?_
  obtain ⟨z12, hz12, hf⟩ := bnd_e hf
  refine v_nmJ hz12 ?_
  refine v_lstore_n C 0 [(0, .long z12)] (by decide) rfl 55 rfl (by decide +kernel) ?_
  refine v_lload_n C 0 0 rfl 56 rfl (by decide +kernel) ?_
  refine v_l2i C 57 rfl (by decide +kernel) ?_
  refine v_bipush C (127) (127) (by decide) 59 rfl (by decide +kernel) ?_
  refine v_iand C 60 rfl (by decide +kernel) ?_
  cases hf
  exact v_iret C hr (by decide +kernel)
theorem hd_Long_bitCount : (⟨"java/lang/Long", "bitCount", "(J)I"⟩ : MethodName).cls ≠ "java/lang/invoke/MethodHandle" ∧ (⟨"java/lang/Long", "bitCount", "(J)I"⟩ : MethodName).cls ≠ "java/lang/invoke/VarHandle" ∧ (parseMethodDescriptor (⟨"java/lang/Long", "bitCount", "(J)I"⟩ : MethodName).desc).map (fun d => d.parameters.length) = some 1 := by decide +kernel
theorem c_Long_numberOfTrailingZeros (G : ns_G) (l : Launch) (σ : ns_St) (x0 : Int64) {r : Int32} {σ' : ns_St} (hf : g_Long_numberOfTrailingZeros σ x0 = some (r, σ')) : ns_ok G l ⟨"java/lang/Long", "numberOfTrailingZeros", "(J)I"⟩ prog_13_method_49_code 3 (some .int) 1 21 0 0 [.long x0] ns_N σ (some (.int r)) ns_N σ' := by
  refine v_openF (by decide +kernel) (Nat.le_of_ble_eq_true rfl) rfl ?_
  intro p e s m below meth c C hr _
  have C : ns_Cx G p s m _ meth c prog_13_method_49_code "java/lang/Long" 3 := C
  unfold g_Long_numberOfTrailingZeros at hf
  refine v_lload_n C 0 0 rfl 1 rfl (by decide +kernel) ?_
  refine v_l2i C 2 rfl (by decide +kernel) ?_
  obtain ⟨z7, hz7, hf⟩ := bnd_e hf
  refine v_nmI hz7 ?_
  refine v_istore_n C 2 [(2, .int z7), (0, .long x0)] (by decide) rfl 3 rfl (by decide +kernel) ?_
  refine v_iload_n C 2 0 rfl 4 rfl (by decide +kernel) ?_
  refine v_if_ne C 21 7 rfl (by decide +kernel) (fun h8 => ?_) (fun h8 => ?_)
  · have hf := ite2_f hf h8
    refine v_iload_n C 2 0 rfl 22 rfl (by decide +kernel) ?_
    obtain ⟨r10, σ9, hcr10, hf⟩ := cl2_e hf
    refine v_cS C [.int z7] [] (c_Integer_numberOfTrailingZeros G l σ z7 hcr10) 311 1 tw_422 tw_420 tw_421 tw_13 hd_Integer_numberOfTrailingZeros rfl ⟨(Nat.le_of_ble_eq_true rfl), (Nat.le_of_ble_eq_true rfl)⟩ ⟨(Nat.le_of_ble_eq_true rfl), (Nat.le_of_ble_eq_true rfl)⟩ (Nat.le_of_ble_eq_true rfl) rfl 25 rfl (by decide +kernel) [.int r10] rfl ?_
    cases hf
    exact v_iret C hr (by decide +kernel)
  · have hf := ite2_t hf h8
    refine v_bipush C (32) (32) (by decide) 9 rfl (by decide +kernel) ?_
    refine v_lload_n C 0 1 rfl 10 rfl (by decide +kernel) ?_
    refine v_bipush C (32) (32) (by decide) 12 rfl (by decide +kernel) ?_
    refine v_lushr C 13 rfl (by decide +kernel) ?_
    refine v_l2i C 14 rfl (by decide +kernel) ?_
    obtain ⟨r12, σ11, hcr12, hf⟩ := cl2_e hf
    refine v_cS C [.int (((x0.toUInt64 >>> ((32 : Int32).toInt64.toUInt64 &&& Int64.toUInt64 63)).toInt64).toInt32)] [.int (32 : Int32)] (c_Integer_numberOfTrailingZeros G l σ (((x0.toUInt64 >>> ((32 : Int32).toInt64.toUInt64 &&& Int64.toUInt64 63)).toInt64).toInt32) hcr12) 311 1 tw_422 tw_420 tw_421 tw_13 hd_Integer_numberOfTrailingZeros rfl ⟨(Nat.le_of_ble_eq_true rfl), (Nat.le_of_ble_eq_true rfl)⟩ ⟨(Nat.le_of_ble_eq_true rfl), (Nat.le_of_ble_eq_true rfl)⟩ (Nat.le_of_ble_eq_true rfl) rfl 17 rfl (by decide +kernel) [.int r12, .int (32 : Int32)] rfl ?_
    refine v_iadd C 18 rfl (by decide +kernel) ?_
    refine v_goto C 25 (by decide +kernel) ?_
    cases hf
    exact v_iret C hr (by decide +kernel)
theorem hd_Long_numberOfTrailingZeros : (⟨"java/lang/Long", "numberOfTrailingZeros", "(J)I"⟩ : MethodName).cls ≠ "java/lang/invoke/MethodHandle" ∧ (⟨"java/lang/Long", "numberOfTrailingZeros", "(J)I"⟩ : MethodName).cls ≠ "java/lang/invoke/VarHandle" ∧ (parseMethodDescriptor (⟨"java/lang/Long", "numberOfTrailingZeros", "(J)I"⟩ : MethodName).desc).map (fun d => d.parameters.length) = some 1 := by decide +kernel
theorem c_Long_numberOfLeadingZeros (G : ns_G) (l : Launch) (σ : ns_St) (x0 : Int64) {r : Int32} {σ' : ns_St} (hf : g_Long_numberOfLeadingZeros σ x0 = some (r, σ')) : ns_ok G l ⟨"java/lang/Long", "numberOfLeadingZeros", "(J)I"⟩ prog_13_method_48_code 3 (some .int) 1 21 0 0 [.long x0] ns_N σ (some (.int r)) ns_N σ' := by
  refine v_openF (by decide +kernel) (Nat.le_of_ble_eq_true rfl) rfl ?_
  intro p e s m below meth c C hr _
  have C : ns_Cx G p s m _ meth c prog_13_method_48_code "java/lang/Long" 3 := C
  unfold g_Long_numberOfLeadingZeros at hf
  refine v_lload_n C 0 0 rfl 1 rfl (by decide +kernel) ?_
  refine v_bipush C (32) (32) (by decide) 3 rfl (by decide +kernel) ?_
  refine v_lushr C 4 rfl (by decide +kernel) ?_
  refine v_l2i C 5 rfl (by decide +kernel) ?_
  obtain ⟨z7, hz7, hf⟩ := bnd_e hf
  refine v_nmI hz7 ?_
  refine v_istore_n C 2 [(2, .int z7), (0, .long x0)] (by decide) rfl 6 rfl (by decide +kernel) ?_
  refine v_iload_n C 2 0 rfl 7 rfl (by decide +kernel) ?_
  refine v_if_ne C 21 10 rfl (by decide +kernel) (fun h8 => ?_) (fun h8 => ?_)
  · have hf := ite2_f hf h8
    refine v_iload_n C 2 0 rfl 22 rfl (by decide +kernel) ?_
    obtain ⟨r10, σ9, hcr10, hf⟩ := cl2_e hf
    refine v_cS C [.int z7] [] (c_Integer_numberOfLeadingZeros G l σ z7 hcr10) 308 1 tw_440 tw_438 tw_439 tw_13 hd_Integer_numberOfLeadingZeros rfl ⟨(Nat.le_of_ble_eq_true rfl), (Nat.le_of_ble_eq_true rfl)⟩ ⟨(Nat.le_of_ble_eq_true rfl), (Nat.le_of_ble_eq_true rfl)⟩ (Nat.le_of_ble_eq_true rfl) rfl 25 rfl (by decide +kernel) [.int r10] rfl ?_
    cases hf
    exact v_iret C hr (by decide +kernel)
  · have hf := ite2_t hf h8
    refine v_bipush C (32) (32) (by decide) 12 rfl (by decide +kernel) ?_
    refine v_lload_n C 0 1 rfl 13 rfl (by decide +kernel) ?_
    refine v_l2i C 14 rfl (by decide +kernel) ?_
    obtain ⟨r12, σ11, hcr12, hf⟩ := cl2_e hf
    refine v_cS C [.int (x0.toInt32)] [.int (32 : Int32)] (c_Integer_numberOfLeadingZeros G l σ (x0.toInt32) hcr12) 308 1 tw_440 tw_438 tw_439 tw_13 hd_Integer_numberOfLeadingZeros rfl ⟨(Nat.le_of_ble_eq_true rfl), (Nat.le_of_ble_eq_true rfl)⟩ ⟨(Nat.le_of_ble_eq_true rfl), (Nat.le_of_ble_eq_true rfl)⟩ (Nat.le_of_ble_eq_true rfl) rfl 17 rfl (by decide +kernel) [.int r12, .int (32 : Int32)] rfl ?_
    refine v_iadd C 18 rfl (by decide +kernel) ?_
    refine v_goto C 25 (by decide +kernel) ?_
    cases hf
    exact v_iret C hr (by decide +kernel)
theorem hd_Long_numberOfLeadingZeros : (⟨"java/lang/Long", "numberOfLeadingZeros", "(J)I"⟩ : MethodName).cls ≠ "java/lang/invoke/MethodHandle" ∧ (⟨"java/lang/Long", "numberOfLeadingZeros", "(J)I"⟩ : MethodName).cls ≠ "java/lang/invoke/VarHandle" ∧ (parseMethodDescriptor (⟨"java/lang/Long", "numberOfLeadingZeros", "(J)I"⟩ : MethodName).desc).map (fun d => d.parameters.length) = some 1 := by decide +kernel
theorem c_Mule_mayStop (G : ns_G) (l : Launch) (σ : ns_St) (a0 : Nat) (a1 : Nat) {r : Int32} {σ' : ns_St} (hf : g_Mule_mayStop σ a0 a1 = some (r, σ')) : ns_ok G l ⟨"NinthStep$Mule", "mayStop", "(LNinthStep$Ground;)Z"⟩ prog_4_method_8_code 2 (some .boolean) 0 0 0 0 [.ref (G.1 + a0), .ref (G.1 + a1)] ns_N σ (some (.int r)) ns_N σ' := by
  refine v_open (by decide) (Nat.le_of_ble_eq_true rfl) rfl ?_
  intro p e s m below meth c C hr _
  have C : ns_Cx G p s m _ meth c prog_4_method_8_code "NinthStep$Mule" 2 := C
  unfold g_Mule_mayStop at hf
  obtain ⟨hk_a0, hf⟩ := grd_e hf
  obtain ⟨hk_a1, hf⟩ := grd_e hf
  refine v_aload_n C 0 0 rfl 1 rfl (by decide +kernel) ?_
  refine v_getI C 2 3 rfl nin_2 (ns_kd_lt hk_a0 (by decide)) hk_a0 (by decide) (by decide) rfl 24 tw_94 rfl 4 rfl (by decide +kernel) ?_
  refine v_aload_n C 0 0 rfl 5 rfl (by decide +kernel) ?_
  refine v_getI C 2 1 rfl nin_2 (ns_kd_lt hk_a0 (by decide)) hk_a0 (by decide) (by decide) rfl 15 tw_84 rfl 8 rfl (by decide +kernel) ?_
  refine v_icmp_lt C 39 11 rfl (by decide +kernel) (fun h4 => ?_) (fun h4 => ?_)
  · have hf := ite2_t hf h4
    refine v_iconst C (0) (0) (by decide) 40 rfl (by decide +kernel) ?_
    cases hf
    exact v_zret C hr rfl (by decide +kernel)
  · have hf := ite2_f hf h4
    refine v_aload_n C 0 0 rfl 12 rfl (by decide +kernel) ?_
    refine v_getI C 2 0 rfl nin_2 (ns_kd_lt hk_a0 (by decide)) hk_a0 (by decide) (by decide) rfl 9 tw_82 rfl 15 rfl (by decide +kernel) ?_
    refine v_iconst C (3) (3) (by decide) 16 rfl (by decide +kernel) ?_
    refine v_icmp_ne C 35 19 rfl (by decide +kernel) (fun h5 => ?_) (fun h5 => ?_)
    · have hf := ite2_f hf h5
      refine v_iconst C (1) (1) (by decide) 36 rfl (by decide +kernel) ?_
      refine v_goto C 40 (by decide +kernel) ?_
      cases hf
      exact v_zret C hr rfl (by decide +kernel)
    · have hf := ite2_t hf h5
      refine v_aload_n C 1 1 rfl 20 rfl (by decide +kernel) ?_
      refine v_getJN C 1 3 rfl nin_1 (ns_kd_lt hk_a1 (by decide)) hk_a1 (by decide) (by decide) rfl 59 tw_58 rfl 23 rfl (by decide +kernel) ?_
      refine v_aload_n C 0 0 rfl 24 rfl (by decide +kernel) ?_
      refine v_getI C 2 2 rfl nin_2 (ns_kd_lt hk_a0 (by decide)) hk_a0 (by decide) (by decide) rfl 21 tw_88 rfl 27 rfl (by decide +kernel) ?_
      refine v_lushr C 28 rfl (by decide +kernel) ?_
      refine v_lconst C 1 (1) (by decide) 29 rfl (by decide +kernel) ?_
      refine v_land C 30 rfl (by decide +kernel) ?_
      refine v_lconst C 0 (0) (by decide) 31 rfl (by decide +kernel) ?_
      refine v_lcmp C 32 rfl (by decide +kernel) ?_
      refine v_if_ne C 39 35 rfl (by decide +kernel) (fun h6 => ?_) (fun h6 => ?_)
      · have hf := ite2_f hf h6
        refine v_iconst C (0) (0) (by decide) 40 rfl (by decide +kernel) ?_
        cases hf
        exact v_zret C hr rfl (by decide +kernel)
      · have hf := ite2_t hf h6
        refine v_iconst C (1) (1) (by decide) 36 rfl (by decide +kernel) ?_
        refine v_goto C 40 (by decide +kernel) ?_
        cases hf
        exact v_zret C hr rfl (by decide +kernel)
theorem hd_Mule_mayStop : (⟨"NinthStep$Mule", "mayStop", "(LNinthStep$Ground;)Z"⟩ : MethodName).cls = "NinthStep$Mule" ∧ (⟨"NinthStep$Mule", "mayStop", "(LNinthStep$Ground;)Z"⟩ : MethodName).cls ≠ "java/lang/invoke/MethodHandle" ∧ (⟨"NinthStep$Mule", "mayStop", "(LNinthStep$Ground;)Z"⟩ : MethodName).cls ≠ "java/lang/invoke/VarHandle" ∧ (parseMethodDescriptor (⟨"NinthStep$Mule", "mayStop", "(LNinthStep$Ground;)Z"⟩ : MethodName).desc).map (fun d => d.parameters.length) = some 1 := by decide +kernel
theorem t_Mule_makeStep_110 (G : ns_G) (l : Launch) {p : Program} {e : Env} {s : State} {m : MethodId} {args : Array Value} {below : List Frame} {meth : Method} {c : Code} (C : ns_Cx G p s m args meth c prog_4_method_6_code "NinthStep$Mule" 5) (hr : meth.sig.returnType = (some .boolean)) {r : Int32} {σ' : ns_St}  (σ : ns_St) (a0 : Nat) (x3 : Int32) (x4 : Int32) (hk_a0 : ns_kd a0 = 2) (hf : g_Mule_makeStep_110 σ a0 x3 x4 = some (r, σ')) : VV G p l e { frames := 1, cells := 0, slots := 0, locals := 21 } s m args below meth c 5 0 0 (MQ below (ns_Qc G (some (.int r)) ns_N σ') args s 0 0 (ns_A G)) ns_N σ 110 [(0, .ref (G.1 + a0)), (3, .int x3), (4, .int x4)] [] := by
  unfold g_Mule_makeStep_110 at hf
  refine v_iload_n C 3 1 rfl 111 rfl (by decide +kernel) ?_
  refine v_if_eq C 137 114 rfl (by decide +kernel) (fun h21 => ?_) (fun h21 => ?_)
  · have hf := ite2_t hf h21
    refine v_iload C 4 2 rfl 139 rfl (by decide +kernel) ?_
    obtain ⟨hz22, hf⟩ := grd_e hf
    cases hf
    exact v_zret C hr (ns_z01 hz22) (by decide +kernel)
  · have hf := ite2_f hf h21
    refine v_aload_n C 0 0 rfl 115 rfl (by decide +kernel) ?_
    refine v_getI C 2 0 rfl nin_2 (ns_kd_lt hk_a0 (by decide)) hk_a0 (by decide) (by decide) rfl 9 tw_82 rfl 118 rfl (by decide +kernel) ?_
    refine v_iconst C (4) (4) (by decide) 119 rfl (by decide +kernel) ?_
    refine v_icmp_ne C 137 122 rfl (by decide +kernel) (fun h23 => ?_) (fun h23 => ?_)
    · have hf := ite2_f hf h23
      refine v_iload C 4 2 rfl 139 rfl (by decide +kernel) ?_
      obtain ⟨hz24, hf⟩ := grd_e hf
      cases hf
      exact v_zret C hr (ns_z01 hz24) (by decide +kernel)
    · have hf := ite2_t hf h23
      refine v_aload_n C 0 0 rfl 123 rfl (by decide +kernel) ?_
      refine v_bipush C (64) (64) (by decide) 125 rfl (by decide +kernel) ?_
      refine v_iconst C (2) (2) (by decide) 126 rfl (by decide +kernel) ?_
      refine v_aload_n C 0 0 rfl 127 rfl (by decide +kernel) ?_
      refine v_getI C 2 1 rfl nin_2 (ns_kd_lt hk_a0 (by decide)) hk_a0 (by decide) (by decide) rfl 15 tw_84 rfl 130 rfl (by decide +kernel) ?_
      refine v_imul C 131 rfl (by decide +kernel) ?_
      obtain ⟨r26, σ25, hcr26, hf⟩ := cl2_e hf
      refine v_cS C [.int (64 : Int32), .int ((2 : Int32) * (σ.1 a0 1))] [.ref (G.1 + a0)] (c_Math_min G l σ (64 : Int32) ((2 : Int32) * (σ.1 a0 1)) hcr26) 40 2 tw_663 tw_661 tw_662 tw_18 hd_Math_min rfl ⟨(Nat.le_of_ble_eq_true rfl), (Nat.le_of_ble_eq_true rfl)⟩ ⟨(Nat.le_of_ble_eq_true rfl), (Nat.le_of_ble_eq_true rfl)⟩ (Nat.le_of_ble_eq_true rfl) rfl 134 rfl (by decide +kernel) [.int r26, .ref (G.1 + a0)] rfl ?_
      obtain ⟨σ27, hσ27, hf⟩ := bnd_e hf
      refine v_putI C 2 1 hσ27 rfl nin_2 ny_2 nty_2 nnm_2 (ns_kd_lt hk_a0 (by decide)) hk_a0 (by decide) (by decide) rfl rfl rfl rfl 15 tw_84 rfl 137 rfl (by decide +kernel) ?_
      refine v_iload C 4 2 rfl 139 rfl (by decide +kernel) ?_
      obtain ⟨hz28, hf⟩ := grd_e hf
      cases hf
      exact v_zret C hr (ns_z01 hz28) (by decide +kernel)
theorem t_Mule_makeStep_98 (G : ns_G) (l : Launch) {p : Program} {e : Env} {s : State} {m : MethodId} {args : Array Value} {below : List Frame} {meth : Method} {c : Code} (C : ns_Cx G p s m args meth c prog_4_method_6_code "NinthStep$Mule" 5) (hr : meth.sig.returnType = (some .boolean)) {r : Int32} {σ' : ns_St}  (σ : ns_St) (s0 : Int32) (a0 : Nat) (x3 : Int32) (hk_a0 : ns_kd a0 = 2) (hf : g_Mule_makeStep_98 σ s0 a0 x3 = some (r, σ')) : VV G p l e { frames := 1, cells := 0, slots := 0, locals := 21 } s m args below meth c 5 0 0 (MQ below (ns_Qc G (some (.int r)) ns_N σ') args s 0 0 (ns_A G)) ns_N σ 98 [(0, .ref (G.1 + a0)), (3, .int x3)] [.int s0] := by
  unfold g_Mule_makeStep_98 at hf
  refine v_istore C 4 [(4, .int s0), (0, .ref (G.1 + a0)), (3, .int x3)] (by decide) rfl 100 rfl (by decide +kernel) ?_
  refine v_iload C 4 0 rfl 102 rfl (by decide +kernel) ?_
  refine v_if_eq C 110 105 rfl (by decide +kernel) (fun h29 => ?_) (fun h29 => ?_)
  · have hf := ite2_t hf h29
    refine v_sub [1, 2, 0] rfl ?_
    exact t_Mule_makeStep_110 G l C hr  σ a0 x3 s0 hk_a0 hf
  · have hf := ite2_f hf h29
    refine v_aload_n C 0 1 rfl 106 rfl (by decide +kernel) ?_
    refine v_iconst C (0) (0) (by decide) 107 rfl (by decide +kernel) ?_
    obtain ⟨σ30, hσ30, hf⟩ := bnd_e hf
    refine v_putI C 2 3 hσ30 rfl nin_2 ny_2 nty_2 nnm_2 (ns_kd_lt hk_a0 (by decide)) hk_a0 (by decide) (by decide) rfl rfl rfl rfl 24 tw_94 rfl 110 rfl (by decide +kernel) ?_
    refine v_sub [1, 2, 0] rfl ?_
    exact t_Mule_makeStep_110 G l C hr  σ30 a0 x3 s0 hk_a0 hf
theorem t_Mule_makeStep_93 (G : ns_G) (l : Launch) {p : Program} {e : Env} {s : State} {m : MethodId} {args : Array Value} {below : List Frame} {meth : Method} {c : Code} (C : ns_Cx G p s m args meth c prog_4_method_6_code "NinthStep$Mule" 5) (hr : meth.sig.returnType = (some .boolean)) {r : Int32} {σ' : ns_St}  (σ : ns_St) (a0 : Nat) (x3 : Int32) (hk_a0 : ns_kd a0 = 2) (hf : g_Mule_makeStep_93 σ a0 x3 = some (r, σ')) : VV G p l e { frames := 1, cells := 0, slots := 0, locals := 21 } s m args below meth c 5 0 0 (MQ below (ns_Qc G (some (.int r)) ns_N σ') args s 0 0 (ns_A G)) ns_N σ 93 [(0, .ref (G.1 + a0)), (3, .int x3)] [] := by
  unfold g_Mule_makeStep_93 at hf
  refine v_iconst C (1) (1) (by decide) 94 rfl (by decide +kernel) ?_
  refine v_goto C 98 (by decide +kernel) ?_
  exact t_Mule_makeStep_98 G l C hr  σ (1 : Int32) a0 x3 hk_a0 hf
theorem t_Mule_makeStep_97 (G : ns_G) (l : Launch) {p : Program} {e : Env} {s : State} {m : MethodId} {args : Array Value} {below : List Frame} {meth : Method} {c : Code} (C : ns_Cx G p s m args meth c prog_4_method_6_code "NinthStep$Mule" 5) (hr : meth.sig.returnType = (some .boolean)) {r : Int32} {σ' : ns_St}  (σ : ns_St) (a0 : Nat) (x3 : Int32) (hk_a0 : ns_kd a0 = 2) (hf : g_Mule_makeStep_97 σ a0 x3 = some (r, σ')) : VV G p l e { frames := 1, cells := 0, slots := 0, locals := 21 } s m args below meth c 5 0 0 (MQ below (ns_Qc G (some (.int r)) ns_N σ') args s 0 0 (ns_A G)) ns_N σ 97 [(0, .ref (G.1 + a0)), (3, .int x3)] [] := by
  unfold g_Mule_makeStep_97 at hf
  refine v_iconst C (0) (0) (by decide) 98 rfl (by decide +kernel) ?_
  exact t_Mule_makeStep_98 G l C hr  σ (0 : Int32) a0 x3 hk_a0 hf
theorem t_Mule_makeStep_72 (G : ns_G) (l : Launch) {p : Program} {e : Env} {s : State} {m : MethodId} {args : Array Value} {below : List Frame} {meth : Method} {c : Code} (C : ns_Cx G p s m args meth c prog_4_method_6_code "NinthStep$Mule" 5) (hr : meth.sig.returnType = (some .boolean)) {r : Int32} {σ' : ns_St}  (σ : ns_St) (s0 : Int32) (a0 : Nat) (a1 : Nat) (hk_a0 : ns_kd a0 = 2) (hk_a1 : ns_kd a1 = 1) (hf : g_Mule_makeStep_72 σ s0 a0 a1 = some (r, σ')) : VV G p l e { frames := 1, cells := 0, slots := 0, locals := 21 } s m args below meth c 5 0 0 (MQ below (ns_Qc G (some (.int r)) ns_N σ') args s 0 0 (ns_A G)) ns_N σ 72 [(0, .ref (G.1 + a0)), (1, .ref (G.1 + a1))] [.int s0] := by
  unfold g_Mule_makeStep_72 at hf
  refine v_istore_n C 3 [(3, .int s0), (0, .ref (G.1 + a0)), (1, .ref (G.1 + a1))] (by decide) rfl 73 rfl (by decide +kernel) ?_
  refine v_aload_n C 0 1 rfl 74 rfl (by decide +kernel) ?_
  refine v_aload_n C 1 2 rfl 75 rfl (by decide +kernel) ?_
  obtain ⟨r32, σ31, hcr32, hf⟩ := cl2_e hf
  refine v_cV C 2 rfl (ns_kd_lt hk_a0 (by decide)) hk_a0 (by decide) [.ref (G.1 + a1)] [] (c_Mule_mayStop G l σ a0 a1 hcr32) 55 1 tw_660 tw_657 tw_659 ts_33 tw_4 hd_Mule_mayStop rfl ⟨(Nat.le_of_ble_eq_true rfl), (Nat.le_of_ble_eq_true rfl)⟩ ⟨(Nat.le_of_ble_eq_true rfl), (Nat.le_of_ble_eq_true rfl)⟩ (Nat.le_of_ble_eq_true rfl) rfl 78 rfl (by decide +kernel) [.int r32] rfl ?_
  refine v_if_ne C 93 81 rfl (by decide +kernel) (fun h33 => ?_) (fun h33 => ?_)
  · have hf := ite2_f hf h33
    refine v_sub [1, 0] rfl ?_
    exact t_Mule_makeStep_93 G l C hr  σ31 a0 s0 hk_a0 hf
  · have hf := ite2_t hf h33
    refine v_iload_n C 3 0 rfl 82 rfl (by decide +kernel) ?_
    refine v_if_eq C 97 85 rfl (by decide +kernel) (fun h34 => ?_) (fun h34 => ?_)
    · have hf := ite2_t hf h34
      refine v_sub [1, 0] rfl ?_
      exact t_Mule_makeStep_97 G l C hr  σ31 a0 s0 hk_a0 hf
    · have hf := ite2_f hf h34
      refine v_aload_n C 0 1 rfl 86 rfl (by decide +kernel) ?_
      refine v_getI C 2 0 rfl nin_2 (ns_kd_lt hk_a0 (by decide)) hk_a0 (by decide) (by decide) rfl 9 tw_82 rfl 89 rfl (by decide +kernel) ?_
      refine v_iconst C (5) (5) (by decide) 90 rfl (by decide +kernel) ?_
      refine v_icmp_ne C 97 93 rfl (by decide +kernel) (fun h35 => ?_) (fun h35 => ?_)
      · have hf := ite2_f hf h35
        refine v_sub [1, 0] rfl ?_
        exact t_Mule_makeStep_97 G l C hr  σ31 a0 s0 hk_a0 hf
      · have hf := ite2_t hf h35
        refine v_sub [1, 0] rfl ?_
        exact t_Mule_makeStep_93 G l C hr  σ31 a0 s0 hk_a0 hf
theorem t_Mule_makeStep_51 (G : ns_G) (l : Launch) {p : Program} {e : Env} {s : State} {m : MethodId} {args : Array Value} {below : List Frame} {meth : Method} {c : Code} (C : ns_Cx G p s m args meth c prog_4_method_6_code "NinthStep$Mule" 5) (hr : meth.sig.returnType = (some .boolean)) {r : Int32} {σ' : ns_St}  (σ : ns_St) (a0 : Nat) (a1 : Nat) (hk_a0 : ns_kd a0 = 2) (hk_a1 : ns_kd a1 = 1) (hf : g_Mule_makeStep_51 σ a0 a1 = some (r, σ')) : VV G p l e { frames := 1, cells := 0, slots := 0, locals := 21 } s m args below meth c 5 0 0 (MQ below (ns_Qc G (some (.int r)) ns_N σ') args s 0 0 (ns_A G)) ns_N σ 51 [(0, .ref (G.1 + a0)), (1, .ref (G.1 + a1))] [] := by
  unfold g_Mule_makeStep_51 at hf
  refine v_aload_n C 1 1 rfl 52 rfl (by decide +kernel) ?_
  refine v_getJN C 1 2 rfl nin_1 (ns_kd_lt hk_a1 (by decide)) hk_a1 (by decide) (by decide) rfl 52 tw_52 rfl 55 rfl (by decide +kernel) ?_
  refine v_aload_n C 0 0 rfl 56 rfl (by decide +kernel) ?_
  refine v_getI C 2 2 rfl nin_2 (ns_kd_lt hk_a0 (by decide)) hk_a0 (by decide) (by decide) rfl 21 tw_88 rfl 59 rfl (by decide +kernel) ?_
  refine v_lushr C 60 rfl (by decide +kernel) ?_
  refine v_lconst C 1 (1) (by decide) 61 rfl (by decide +kernel) ?_
  refine v_land C 62 rfl (by decide +kernel) ?_
  refine v_lconst C 0 (0) (by decide) 63 rfl (by decide +kernel) ?_
  refine v_lcmp C 64 rfl (by decide +kernel) ?_
  refine v_if_eq C 71 67 rfl (by decide +kernel) (fun h36 => ?_) (fun h36 => ?_)
  · have hf := ite2_t hf h36
    refine v_iconst C (0) (0) (by decide) 72 rfl (by decide +kernel) ?_
    exact t_Mule_makeStep_72 G l C hr  σ (0 : Int32) a0 a1 hk_a0 hk_a1 hf
  · have hf := ite2_f hf h36
    refine v_iconst C (1) (1) (by decide) 68 rfl (by decide +kernel) ?_
    refine v_goto C 72 (by decide +kernel) ?_
    exact t_Mule_makeStep_72 G l C hr  σ (1 : Int32) a0 a1 hk_a0 hk_a1 hf
theorem c_Mule_makeStep (G : ns_G) (l : Launch) (σ : ns_St) (a0 : Nat) (a1 : Nat) (x2 : Int32) {r : Int32} {σ' : ns_St} (hf : g_Mule_makeStep σ a0 a1 x2 = some (r, σ')) : ns_ok G l ⟨"NinthStep$Mule", "makeStep", "(LNinthStep$Ground;I)Z"⟩ prog_4_method_6_code 5 (some .boolean) 1 21 0 0 [.ref (G.1 + a0), .ref (G.1 + a1), .int x2] ns_N σ (some (.int r)) ns_N σ' := by
  refine v_open (by decide) (Nat.le_of_ble_eq_true rfl) rfl ?_
  intro p e s m below meth c C hr _
  have C : ns_Cx G p s m _ meth c prog_4_method_6_code "NinthStep$Mule" 5 := C
  unfold g_Mule_makeStep at hf
  obtain ⟨hk_a0, hf⟩ := grd_e hf
  obtain ⟨hk_a1, hf⟩ := grd_e hf
  refine v_aload_n C 0 0 rfl 1 rfl (by decide +kernel) ?_
  refine v_dup C rfl 2 rfl (by decide +kernel) ?_
  refine v_getI C 2 2 rfl nin_2 (ns_kd_lt hk_a0 (by decide)) hk_a0 (by decide) (by decide) rfl 21 tw_88 rfl 5 rfl (by decide +kernel) ?_
  refine v_iconst C (1) (1) (by decide) 6 rfl (by decide +kernel) ?_
  refine v_iadd C 7 rfl (by decide +kernel) ?_
  obtain ⟨σ37, hσ37, hf⟩ := bnd_e hf
  refine v_putI C 2 2 hσ37 rfl nin_2 ny_2 nty_2 nnm_2 (ns_kd_lt hk_a0 (by decide)) hk_a0 (by decide) (by decide) rfl rfl rfl rfl 21 tw_88 rfl 10 rfl (by decide +kernel) ?_
  refine v_aload_n C 0 0 rfl 11 rfl (by decide +kernel) ?_
  refine v_dup C rfl 12 rfl (by decide +kernel) ?_
  refine v_getI C 2 3 rfl nin_2 (ns_kd_lt hk_a0 (by decide)) hk_a0 (by decide) (by decide) rfl 24 tw_94 rfl 15 rfl (by decide +kernel) ?_
  refine v_iconst C (1) (1) (by decide) 16 rfl (by decide +kernel) ?_
  refine v_iload_n C 2 2 rfl 17 rfl (by decide +kernel) ?_
  refine v_iadd C 18 rfl (by decide +kernel) ?_
  refine v_iadd C 19 rfl (by decide +kernel) ?_
  obtain ⟨σ38, hσ38, hf⟩ := bnd_e hf
  refine v_putI C 2 3 hσ38 rfl nin_2 ny_2 nty_2 nnm_2 (ns_kd_lt hk_a0 (by decide)) hk_a0 (by decide) (by decide) rfl rfl rfl rfl 24 tw_94 rfl 22 rfl (by decide +kernel) ?_
  refine v_aload_n C 1 1 rfl 23 rfl (by decide +kernel) ?_
  refine v_getJN C 1 1 rfl nin_1 (ns_kd_lt hk_a1 (by decide)) hk_a1 (by decide) (by decide) rfl 46 tw_49 rfl 26 rfl (by decide +kernel) ?_
  refine v_aload_n C 0 0 rfl 27 rfl (by decide +kernel) ?_
  refine v_getI C 2 2 rfl nin_2 (ns_kd_lt hk_a0 (by decide)) hk_a0 (by decide) (by decide) rfl 21 tw_88 rfl 30 rfl (by decide +kernel) ?_
  refine v_lushr C 31 rfl (by decide +kernel) ?_
  refine v_lconst C 1 (1) (by decide) 32 rfl (by decide +kernel) ?_
  refine v_land C 33 rfl (by decide +kernel) ?_
  refine v_lconst C 0 (0) (by decide) 34 rfl (by decide +kernel) ?_
  refine v_lcmp C 35 rfl (by decide +kernel) ?_
  refine v_if_eq C 51 38 rfl (by decide +kernel) (fun h39 => ?_) (fun h39 => ?_)
  · have hf := ite2_t hf h39
    refine v_sub [0, 1] rfl ?_
    exact t_Mule_makeStep_51 G l C hr  σ38 a0 a1 hk_a0 hk_a1 hf
  · have hf := ite2_f hf h39
    refine v_aload_n C 0 0 rfl 39 rfl (by decide +kernel) ?_
    refine v_dup C rfl 40 rfl (by decide +kernel) ?_
    refine v_getI C 2 3 rfl nin_2 (ns_kd_lt hk_a0 (by decide)) hk_a0 (by decide) (by decide) rfl 24 tw_94 rfl 43 rfl (by decide +kernel) ?_
    refine v_aload_n C 0 0 rfl 44 rfl (by decide +kernel) ?_
    refine v_getI C 2 7 rfl nin_2 (ns_kd_lt hk_a0 (by decide)) hk_a0 (by decide) (by decide) rfl 37 tw_106 rfl 47 rfl (by decide +kernel) ?_
    refine v_iadd C 48 rfl (by decide +kernel) ?_
    obtain ⟨σ40, hσ40, hf⟩ := bnd_e hf
    refine v_putI C 2 3 hσ40 rfl nin_2 ny_2 nty_2 nnm_2 (ns_kd_lt hk_a0 (by decide)) hk_a0 (by decide) (by decide) rfl rfl rfl rfl 24 tw_94 rfl 51 rfl (by decide +kernel) ?_
    refine v_sub [0, 1] rfl ?_
    exact t_Mule_makeStep_51 G l C hr  σ40 a0 a1 hk_a0 hk_a1 hf
theorem hd_Mule_makeStep : (⟨"NinthStep$Mule", "makeStep", "(LNinthStep$Ground;I)Z"⟩ : MethodName).cls = "NinthStep$Mule" ∧ (⟨"NinthStep$Mule", "makeStep", "(LNinthStep$Ground;I)Z"⟩ : MethodName).cls ≠ "java/lang/invoke/MethodHandle" ∧ (⟨"NinthStep$Mule", "makeStep", "(LNinthStep$Ground;I)Z"⟩ : MethodName).cls ≠ "java/lang/invoke/VarHandle" ∧ (parseMethodDescriptor (⟨"NinthStep$Mule", "makeStep", "(LNinthStep$Ground;I)Z"⟩ : MethodName).desc).map (fun d => d.parameters.length) = some 2 := by decide +kernel
theorem c_Ground_allOf (G : ns_G) (l : Launch) (σ : ns_St) (a0 : Nat) (x1 : Int32) {r : Int64} {σ' : ns_St} (hf : g_Ground_allOf σ a0 x1 = some (r, σ')) : ns_ok G l ⟨"NinthStep$Ground", "allOf", "(I)J"⟩ prog_3_method_3_code 2 (some .long) 0 0 0 0 [.ref (G.1 + a0), .int x1] ns_N σ (some (.long r)) ns_N σ' := by
  refine v_open (by decide) (Nat.le_of_ble_eq_true rfl) rfl ?_
  intro p e s m below meth c C hr _
  have C : ns_Cx G p s m _ meth c prog_3_method_3_code "NinthStep$Ground" 2 := C
  unfold g_Ground_allOf at hf
  obtain ⟨hk_a0, hf⟩ := grd_e hf
  refine v_iload_n C 1 1 rfl 1 rfl (by decide +kernel) ?_
  by_cases h4 : x1 = 0
  · have hf := ite2_t hf h4
    refine v_tswI C (42) (0) (2) #[(27), (32), (37)] 27 28 (0) h4 (by decide) (by decide) (27) (by decide) (by decide) (by decide +kernel) ?_
    refine v_aload_n C 0 0 rfl 29 rfl (by decide +kernel) ?_
    refine v_getJ C 1 1 rfl nin_1 (ns_kd_lt hk_a0 (by decide)) hk_a0 (by decide) (by decide) rfl 15 tw_46 rfl 32 rfl (by decide +kernel) ?_
    cases hf
    exact v_lret C hr (by decide +kernel)
  · have hf := ite2_f hf h4
    by_cases h5 : x1 = 1
    · have hf := ite2_t hf h5
      refine v_tswI C (42) (0) (2) #[(27), (32), (37)] 27 33 (1) h5 (by decide) (by decide) (32) (by decide) (by decide) (by decide +kernel) ?_
      refine v_aload_n C 0 0 rfl 34 rfl (by decide +kernel) ?_
      refine v_getJ C 1 2 rfl nin_1 (ns_kd_lt hk_a0 (by decide)) hk_a0 (by decide) (by decide) rfl 19 tw_51 rfl 37 rfl (by decide +kernel) ?_
      cases hf
      exact v_lret C hr (by decide +kernel)
    · have hf := ite2_f hf h5
      by_cases h6 : x1 = 2
      · have hf := ite2_t hf h6
        refine v_tswI C (42) (0) (2) #[(27), (32), (37)] 27 38 (2) h6 (by decide) (by decide) (37) (by decide) (by decide) (by decide +kernel) ?_
        refine v_aload_n C 0 0 rfl 39 rfl (by decide +kernel) ?_
        refine v_getJ C 1 3 rfl nin_1 (ns_kd_lt hk_a0 (by decide)) hk_a0 (by decide) (by decide) rfl 22 tw_54 rfl 42 rfl (by decide +kernel) ?_
        cases hf
        exact v_lret C hr (by decide +kernel)
      · have hf := ite2_f hf h6
        refine v_tswO C (42) (0) (2) #[(27), (32), (37)] 27 43 (ns_out x1 (0) (2) (fun k h1 h2 => by
          have h3 : k = 0 ∨ k = 1 ∨ k = 2 := by omega
          rcases h3 with rfl | rfl | rfl
          · exact h4
          · exact h5
          · exact h6)) (by decide) (by decide +kernel) ?_
        refine v_aload_n C 0 0 rfl 44 rfl (by decide +kernel) ?_
        refine v_getJ C 1 4 rfl nin_1 (ns_kd_lt hk_a0 (by decide)) hk_a0 (by decide) (by decide) rfl 25 tw_61 rfl 47 rfl (by decide +kernel) ?_
        cases hf
        exact v_lret C hr (by decide +kernel)
theorem hd_Ground_allOf : (⟨"NinthStep$Ground", "allOf", "(I)J"⟩ : MethodName).cls = "NinthStep$Ground" ∧ (⟨"NinthStep$Ground", "allOf", "(I)J"⟩ : MethodName).cls ≠ "java/lang/invoke/MethodHandle" ∧ (⟨"NinthStep$Ground", "allOf", "(I)J"⟩ : MethodName).cls ≠ "java/lang/invoke/VarHandle" ∧ (parseMethodDescriptor (⟨"NinthStep$Ground", "allOf", "(I)J"⟩ : MethodName).desc).map (fun d => d.parameters.length) = some 1 := by decide +kernel
