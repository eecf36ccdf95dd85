def g_Math_min (σ : ns_St) (x0 : Int32) (x1 : Int32) : Option (Int32 × ns_St) := ite2 (x1 < x0) (some (x1, σ)) (some (x0, σ))
theorem c_Math_min (G : ns_G) (l : Launch) (σ : ns_St) (x0 : Int32) (x1 : Int32) {r : Int32} {σ' : ns_St} (hf : g_Math_min σ x0 x1 = some (r, σ')) : ns_ok G l ⟨"java/lang/Math", "min", "(II)I"⟩ prog_14_method_69_code 2 (some .int) 0 0 0 0 [.int x0, .int x1] ns_N σ (some (.int r)) ns_N σ' := by
  refine v_openF (by decide +kernel) (Nat.le_of_ble_eq_true rfl) rfl ?_
  intro p e s m below meth c C hr _
  have C : ns_Cx G p s m _ meth c prog_14_method_69_code "java/lang/Math" 2 := C
  unfold g_Math_min at hf
  refine v_iload_n C 0 0 rfl 1 rfl (by decide +kernel) ?_
  refine v_iload_n C 1 1 rfl 2 rfl (by decide +kernel) ?_
  refine v_icmp_gt C 9 5 rfl (by decide +kernel) (fun h2 => ?_) (fun h2 => ?_)
  · have hf := ite2_t hf h2
    refine v_iload_n C 1 1 rfl 10 rfl (by decide +kernel) ?_
    obtain ⟨rfl, rfl⟩ := ret_e hf
    exact v_iret C hr (by decide +kernel)
  · have hf := ite2_f hf h2
    refine v_iload_n C 0 0 rfl 6 rfl (by decide +kernel) ?_
    refine v_goto C 10 (by decide +kernel) ?_
    obtain ⟨rfl, rfl⟩ := ret_e hf
    exact v_iret C hr (by decide +kernel)
theorem hd_Math_min : (⟨"java/lang/Math", "min", "(II)I"⟩ : MethodName).cls ≠ "java/lang/invoke/MethodHandle" ∧ (⟨"java/lang/Math", "min", "(II)I"⟩ : MethodName).cls ≠ "java/lang/invoke/VarHandle" ∧ (parseMethodDescriptor (⟨"java/lang/Math", "min", "(II)I"⟩ : MethodName).desc).map (fun d => d.parameters.length) = some 2 := by decide +kernel
def g_Math_max (σ : ns_St) (x0 : Int32) (x1 : Int32) : Option (Int32 × ns_St) := ite2 (x0 < x1) (some (x1, σ)) (some (x0, σ))
theorem c_Math_max (G : ns_G) (l : Launch) (σ : ns_St) (x0 : Int32) (x1 : Int32) {r : Int32} {σ' : ns_St} (hf : g_Math_max σ x0 x1 = some (r, σ')) : ns_ok G l ⟨"java/lang/Math", "max", "(II)I"⟩ prog_14_method_65_code 2 (some .int) 0 0 0 0 [.int x0, .int x1] ns_N σ (some (.int r)) ns_N σ' := by
  refine v_openF (by decide +kernel) (Nat.le_of_ble_eq_true rfl) rfl ?_
  intro p e s m below meth c C hr _
  have C : ns_Cx G p s m _ meth c prog_14_method_65_code "java/lang/Math" 2 := C
  unfold g_Math_max at hf
  refine v_iload_n C 0 0 rfl 1 rfl (by decide +kernel) ?_
  refine v_iload_n C 1 1 rfl 2 rfl (by decide +kernel) ?_
  refine v_icmp_lt C 9 5 rfl (by decide +kernel) (fun h2 => ?_) (fun h2 => ?_)
  · have hf := ite2_t hf h2
    refine v_iload_n C 1 1 rfl 10 rfl (by decide +kernel) ?_
    obtain ⟨rfl, rfl⟩ := ret_e hf
    exact v_iret C hr (by decide +kernel)
  · have hf := ite2_f hf h2
    refine v_iload_n C 0 0 rfl 6 rfl (by decide +kernel) ?_
    refine v_goto C 10 (by decide +kernel) ?_
    obtain ⟨rfl, rfl⟩ := ret_e hf
    exact v_iret C hr (by decide +kernel)
theorem hd_Math_max : (⟨"java/lang/Math", "max", "(II)I"⟩ : MethodName).cls ≠ "java/lang/invoke/MethodHandle" ∧ (⟨"java/lang/Math", "max", "(II)I"⟩ : MethodName).cls ≠ "java/lang/invoke/VarHandle" ∧ (parseMethodDescriptor (⟨"java/lang/Math", "max", "(II)I"⟩ : MethodName).desc).map (fun d => d.parameters.length) = some 2 := by decide +kernel
def g_Integer_numberOfTrailingZeros_62  (σ : ns_St) (x0 : Int32) (x1 : Int32) : Option (Int32 × ns_St) := ite2 (x0 ≤ (4 : Int32)) (some ((x1 + ((x0.toUInt32 >>> ((1 : Int32).toUInt32 &&& Int32.toUInt32 31)).toInt32)), σ)) (bnd (x1 + 2) fun z16 => bnd ((x0.toUInt32 >>> ((2 : Int32).toUInt32 &&& Int32.toUInt32 31)).toInt32) fun z17 => some ((z16 + ((z17.toUInt32 >>> ((1 : Int32).toUInt32 &&& Int32.toUInt32 31)).toInt32)), σ))
def g_Integer_numberOfTrailingZeros_49  (σ : ns_St) (x0 : Int32) (x1 : Int32) : Option (Int32 × ns_St) := ite2 (x0 ≤ (16 : Int32)) (g_Integer_numberOfTrailingZeros_62 σ x0 x1) (bnd (x1 + 4) fun z19 => bnd ((x0.toUInt32 >>> ((4 : Int32).toUInt32 &&& Int32.toUInt32 31)).toInt32) fun z20 => g_Integer_numberOfTrailingZeros_62 σ z20 z19)
def g_Integer_numberOfTrailingZeros_34  (σ : ns_St) (x0 : Int32) (x1 : Int32) : Option (Int32 × ns_St) := ite2 (x0 ≤ (256 : Int32)) (g_Integer_numberOfTrailingZeros_49 σ x0 x1) (bnd (x1 + 8) fun z22 => bnd ((x0.toUInt32 >>> ((8 : Int32).toUInt32 &&& Int32.toUInt32 31)).toInt32) fun z23 => g_Integer_numberOfTrailingZeros_49 σ z23 z22)
def g_Integer_numberOfTrailingZeros (σ : ns_St) (x0 : Int32) : Option (Int32 × ns_St) := bnd ((x0 ^^^ (-1 : Int32)) &&& (x0 - (1 : Int32))) fun z24 => ite2 (0 < z24) (ite2 (z24 ≤ (65536 : Int32)) (g_Integer_numberOfTrailingZeros_34 σ z24 (1 : Int32)) (bnd ((1 : Int32) + 16) fun z27 => bnd ((z24.toUInt32 >>> ((16 : Int32).toUInt32 &&& Int32.toUInt32 31)).toInt32) fun z28 => g_Integer_numberOfTrailingZeros_34 σ z28 z27)) (some ((z24 &&& (32 : Int32)), σ))
theorem t_Integer_numberOfTrailingZeros_62 (G : ns_G) (l : Launch) {p : Program} {e : Env} {s : State} {m : MethodId} {args : Array Value} {below : List Frame} {meth : Method} {c : Code} (C : ns_Cx G p s m args meth c prog_12_method_48_code "java/lang/Integer" 2) (hr : meth.sig.returnType = (some .int)) {r : Int32} {σ' : ns_St}  (σ : ns_St) (x0 : Int32) (x1 : Int32)  (hf : g_Integer_numberOfTrailingZeros_62 σ x0 x1 = some (r, σ')) : VV G p l e { frames := 0, cells := 0, slots := 0, locals := 0 } s m args below meth c 2 0 0 (MQ below (ns_Qc G (some (.int r)) ns_N σ') args s 0 0 (ns_A G)) ns_N σ 62 [(0, .int x0), (1, .int x1)] [] := by
  unfold g_Integer_numberOfTrailingZeros_62 at hf
  refine v_iload_n C 0 0 rfl 63 rfl (by decide +kernel) ?_
  refine v_iconst C (4) (4) (by decide) 64 rfl (by decide +kernel) ?_
  refine v_icmp_le C 74 67 rfl (by decide +kernel) (fun h15 => ?_) (fun h15 => ?_)
  · have hf := ite2_t hf h15
    refine v_iload_n C 1 1 rfl 75 rfl (by decide +kernel) ?_
    refine v_iload_n C 0 0 rfl 76 rfl (by decide +kernel) ?_
    refine v_iconst C (1) (1) (by decide) 77 rfl (by decide +kernel) ?_
    refine v_iushr C 78 rfl (by decide +kernel) ?_
    refine v_iadd C 79 rfl (by decide +kernel) ?_
    obtain ⟨rfl, rfl⟩ := ret_e hf
    exact v_iret C hr (by decide +kernel)
  · have hf := ite2_f hf h15
    obtain ⟨z16, hz16, hf⟩ := bnd_e hf
    refine v_iinc C 1 (2) 1 z16 rfl (by rw [hz16]; rfl) [(1, .int z16), (0, .int x0)] (by decide) rfl 70 rfl (by decide +kernel) ?_
    refine v_iload_n C 0 1 rfl 71 rfl (by decide +kernel) ?_
    refine v_iconst C (2) (2) (by decide) 72 rfl (by decide +kernel) ?_
    refine v_iushr C 73 rfl (by decide +kernel) ?_
    obtain ⟨z17, hz17, hf⟩ := bnd_e hf
    refine v_nmI hz17 ?_
    refine v_istore_n C 0 [(0, .int z17), (1, .int z16)] (by decide) rfl 74 rfl (by decide +kernel) ?_
    refine v_iload_n C 1 1 rfl 75 rfl (by decide +kernel) ?_
    refine v_iload_n C 0 0 rfl 76 rfl (by decide +kernel) ?_
    refine v_iconst C (1) (1) (by decide) 77 rfl (by decide +kernel) ?_
    refine v_iushr C 78 rfl (by decide +kernel) ?_
    refine v_iadd C 79 rfl (by decide +kernel) ?_
    obtain ⟨rfl, rfl⟩ := ret_e hf
    exact v_iret C hr (by decide +kernel)
theorem t_Integer_numberOfTrailingZeros_49 (G : ns_G) (l : Launch) {p : Program} {e : Env} {s : State} {m : MethodId} {args : Array Value} {below : List Frame} {meth : Method} {c : Code} (C : ns_Cx G p s m args meth c prog_12_method_48_code "java/lang/Integer" 2) (hr : meth.sig.returnType = (some .int)) {r : Int32} {σ' : ns_St}  (σ : ns_St) (x0 : Int32) (x1 : Int32)  (hf : g_Integer_numberOfTrailingZeros_49 σ x0 x1 = some (r, σ')) : VV G p l e { frames := 0, cells := 0, slots := 0, locals := 0 } s m args below meth c 2 0 0 (MQ below (ns_Qc G (some (.int r)) ns_N σ') args s 0 0 (ns_A G)) ns_N σ 49 [(0, .int x0), (1, .int x1)] [] := by
  unfold g_Integer_numberOfTrailingZeros_49 at hf
  refine v_iload_n C 0 0 rfl 50 rfl (by decide +kernel) ?_
  refine v_bipush C (16) (16) (by decide) 52 rfl (by decide +kernel) ?_
  refine v_icmp_le C 62 55 rfl (by decide +kernel) (fun h18 => ?_) (fun h18 => ?_)
  · have hf := ite2_t hf h18
    exact t_Integer_numberOfTrailingZeros_62 G l C hr  σ x0 x1 hf
  · have hf := ite2_f hf h18
    obtain ⟨z19, hz19, hf⟩ := bnd_e hf
    refine v_iinc C 1 (4) 1 z19 rfl (by rw [hz19]; rfl) [(1, .int z19), (0, .int x0)] (by decide) rfl 58 rfl (by decide +kernel) ?_
    refine v_iload_n C 0 1 rfl 59 rfl (by decide +kernel) ?_
    refine v_iconst C (4) (4) (by decide) 60 rfl (by decide +kernel) ?_
    refine v_iushr C 61 rfl (by decide +kernel) ?_
    obtain ⟨z20, hz20, hf⟩ := bnd_e hf
    refine v_nmI hz20 ?_
    refine v_istore_n C 0 [(0, .int z20), (1, .int z19)] (by decide) rfl 62 rfl (by decide +kernel) ?_
    exact t_Integer_numberOfTrailingZeros_62 G l C hr  σ z20 z19 hf
theorem t_Integer_numberOfTrailingZeros_34 (G : ns_G) (l : Launch) {p : Program} {e : Env} {s : State} {m : MethodId} {args : Array Value} {below : List Frame} {meth : Method} {c : Code} (C : ns_Cx G p s m args meth c prog_12_method_48_code "java/lang/Integer" 2) (hr : meth.sig.returnType = (some .int)) {r : Int32} {σ' : ns_St}  (σ : ns_St) (x0 : Int32) (x1 : Int32)  (hf : g_Integer_numberOfTrailingZeros_34 σ x0 x1 = some (r, σ')) : VV G p l e { frames := 0, cells := 0, slots := 0, locals := 0 } s m args below meth c 2 0 0 (MQ below (ns_Qc G (some (.int r)) ns_N σ') args s 0 0 (ns_A G)) ns_N σ 34 [(0, .int x0), (1, .int x1)] [] := by
  unfold g_Integer_numberOfTrailingZeros_34 at hf
  refine v_iload_n C 0 0 rfl 35 rfl (by decide +kernel) ?_
  refine v_sipush C (256) (256) (by decide) 38 rfl (by decide +kernel) ?_
  refine v_icmp_le C 49 41 rfl (by decide +kernel) (fun h21 => ?_) (fun h21 => ?_)
  · have hf := ite2_t hf h21
    exact t_Integer_numberOfTrailingZeros_49 G l C hr  σ x0 x1 hf
  · have hf := ite2_f hf h21
    obtain ⟨z22, hz22, hf⟩ := bnd_e hf
    refine v_iinc C 1 (8) 1 z22 rfl (by rw [hz22]; rfl) [(1, .int z22), (0, .int x0)] (by decide) rfl 44 rfl (by decide +kernel) ?_
    refine v_iload_n C 0 1 rfl 45 rfl (by decide +kernel) ?_
    refine v_bipush C (8) (8) (by decide) 47 rfl (by decide +kernel) ?_
    refine v_iushr C 48 rfl (by decide +kernel) ?_
    obtain ⟨z23, hz23, hf⟩ := bnd_e hf
    refine v_nmI hz23 ?_
    refine v_istore_n C 0 [(0, .int z23), (1, .int z22)] (by decide) rfl 49 rfl (by decide +kernel) ?_
    exact t_Integer_numberOfTrailingZeros_49 G l C hr  σ z23 z22 hf
theorem c_Integer_numberOfTrailingZeros (G : ns_G) (l : Launch) (σ : ns_St) (x0 : Int32) {r : Int32} {σ' : ns_St} (hf : g_Integer_numberOfTrailingZeros σ x0 = some (r, σ')) : ns_ok G l ⟨"java/lang/Integer", "numberOfTrailingZeros", "(I)I"⟩ prog_12_method_48_code 2 (some .int) 0 0 0 0 [.int x0] ns_N σ (some (.int r)) ns_N σ' := by
  refine v_openF (by decide +kernel) (Nat.le_of_ble_eq_true rfl) rfl ?_
  intro p e s m below meth c C hr _
  have C : ns_Cx G p s m _ meth c prog_12_method_48_code "java/lang/Integer" 2 := C
  unfold g_Integer_numberOfTrailingZeros at hf
  refine v_iload_n C 0 0 rfl 1 rfl (by decide +kernel) ?_
  refine v_iconst C (-1) (-1) (by decide) 2 rfl (by decide +kernel) ?_
  refine v_ixor C 3 rfl (by decide +kernel) ?_
  refine v_iload_n C 0 0 rfl 4 rfl (by decide +kernel) ?_
  refine v_iconst C (1) (1) (by decide) 5 rfl (by decide +kernel) ?_
  refine v_isub C 6 rfl (by decide +kernel) ?_
  refine v_iand C 7 rfl (by decide +kernel) ?_
  obtain ⟨z24, hz24, hf⟩ := bnd_e hf
  refine v_nmI hz24 ?_
  refine v_istore_n C 0 [(0, .int z24)] (by decide) rfl 8 rfl (by decide +kernel) ?_
  refine v_iload_n C 0 0 rfl 9 rfl (by decide +kernel) ?_
  refine v_if_gt C 17 12 rfl (by decide +kernel) (fun h25 => ?_) (fun h25 => ?_)
  · have hf := ite2_t hf h25
    refine v_iconst C (1) (1) (by decide) 18 rfl (by decide +kernel) ?_
    refine v_istore_n C 1 [(1, .int (1 : Int32)), (0, .int z24)] (by decide) rfl 19 rfl (by decide +kernel) ?_
    refine v_iload_n C 0 1 rfl 20 rfl (by decide +kernel) ?_
    refine v_ldcw C 264 (65536) tw_423 23 rfl (by decide +kernel) ?_
    refine v_icmp_le C 34 26 rfl (by decide +kernel) (fun h26 => ?_) (fun h26 => ?_)
    · have hf := ite2_t hf h26
      refine v_sub [1, 0] rfl ?_
      exact t_Integer_numberOfTrailingZeros_34 G l C hr  σ z24 (1 : Int32) hf
    · have hf := ite2_f hf h26
      obtain ⟨z27, hz27, hf⟩ := bnd_e hf
      refine v_iinc C 1 (16) 0 z27 rfl (by rw [hz27]; rfl) [(1, .int z27), (0, .int z24)] (by decide) rfl 29 rfl (by decide +kernel) ?_
      refine v_iload_n C 0 1 rfl 30 rfl (by decide +kernel) ?_
      refine v_bipush C (16) (16) (by decide) 32 rfl (by decide +kernel) ?_
      refine v_iushr C 33 rfl (by decide +kernel) ?_
      obtain ⟨z28, hz28, hf⟩ := bnd_e hf
      refine v_nmI hz28 ?_
      refine v_istore_n C 0 [(0, .int z28), (1, .int z27)] (by decide) rfl 34 rfl (by decide +kernel) ?_
      exact t_Integer_numberOfTrailingZeros_34 G l C hr  σ z28 z27 hf
  · have hf := ite2_f hf h25
    refine v_iload_n C 0 0 rfl 13 rfl (by decide +kernel) ?_
    refine v_bipush C (32) (32) (by decide) 15 rfl (by decide +kernel) ?_
    refine v_iand C 16 rfl (by decide +kernel) ?_
    obtain ⟨rfl, rfl⟩ := ret_e hf
    exact v_iret C hr (by decide +kernel)
theorem hd_Integer_numberOfTrailingZeros : (⟨"java/lang/Integer", "numberOfTrailingZeros", "(I)I"⟩ : MethodName).cls ≠ "java/lang/invoke/MethodHandle" ∧ (⟨"java/lang/Integer", "numberOfTrailingZeros", "(I)I"⟩ : MethodName).cls ≠ "java/lang/invoke/VarHandle" ∧ (parseMethodDescriptor (⟨"java/lang/Integer", "numberOfTrailingZeros", "(I)I"⟩ : MethodName).desc).map (fun d => d.parameters.length) = some 1 := by decide +kernel
def g_Integer_numberOfLeadingZeros_61  (σ : ns_St) (x0 : Int32) (x1 : Int32) : Option (Int32 × ns_St) := ite2 (x0 < (4 : Int32)) (some ((x1 - ((x0.toUInt32 >>> ((1 : Int32).toUInt32 &&& Int32.toUInt32 31)).toInt32)), σ)) (bnd (x1 + (-2)) fun z16 => bnd ((x0.toUInt32 >>> ((2 : Int32).toUInt32 &&& Int32.toUInt32 31)).toInt32) fun z17 => some ((z16 - ((z17.toUInt32 >>> ((1 : Int32).toUInt32 &&& Int32.toUInt32 31)).toInt32)), σ))
def g_Integer_numberOfLeadingZeros_48  (σ : ns_St) (x0 : Int32) (x1 : Int32) : Option (Int32 × ns_St) := ite2 (x0 < (16 : Int32)) (g_Integer_numberOfLeadingZeros_61 σ x0 x1) (bnd (x1 + (-4)) fun z19 => bnd ((x0.toUInt32 >>> ((4 : Int32).toUInt32 &&& Int32.toUInt32 31)).toInt32) fun z20 => g_Integer_numberOfLeadingZeros_61 σ z20 z19)
def g_Integer_numberOfLeadingZeros_33  (σ : ns_St) (x0 : Int32) (x1 : Int32) : Option (Int32 × ns_St) := ite2 (x0 < (256 : Int32)) (g_Integer_numberOfLeadingZeros_48 σ x0 x1) (bnd (x1 + (-8)) fun z22 => bnd ((x0.toUInt32 >>> ((8 : Int32).toUInt32 &&& Int32.toUInt32 31)).toInt32) fun z23 => g_Integer_numberOfLeadingZeros_48 σ z23 z22)
def g_Integer_numberOfLeadingZeros (σ : ns_St) (x0 : Int32) : Option (Int32 × ns_St) := ite2 (0 < x0) (ite2 (x0 < (65536 : Int32)) (g_Integer_numberOfLeadingZeros_33 σ x0 (31 : Int32)) (bnd ((31 : Int32) + (-16)) fun z26 => bnd ((x0.toUInt32 >>> ((16 : Int32).toUInt32 &&& Int32.toUInt32 31)).toInt32) fun z27 => g_Integer_numberOfLeadingZeros_33 σ z27 z26)) (ite2 (x0 = 0) (some ((32 : Int32), σ)) (some ((0 : Int32), σ)))
theorem t_Integer_numberOfLeadingZeros_61 (G : ns_G) (l : Launch) {p : Program} {e : Env} {s : State} {m : MethodId} {args : Array Value} {below : List Frame} {meth : Method} {c : Code} (C : ns_Cx G p s m args meth c prog_12_method_47_code "java/lang/Integer" 2) (hr : meth.sig.returnType = (some .int)) {r : Int32} {σ' : ns_St}  (σ : ns_St) (x0 : Int32) (x1 : Int32)  (hf : g_Integer_numberOfLeadingZeros_61 σ x0 x1 = some (r, σ')) : VV G p l e { frames := 0, cells := 0, slots := 0, locals := 0 } s m args below meth c 2 0 0 (MQ below (ns_Qc G (some (.int r)) ns_N σ') args s 0 0 (ns_A G)) ns_N σ 61 [(0, .int x0), (1, .int x1)] [] := by
  unfold g_Integer_numberOfLeadingZeros_61 at hf
  refine v_iload_n C 0 0 rfl 62 rfl (by decide +kernel) ?_
  refine v_iconst C (4) (4) (by decide) 63 rfl (by decide +kernel) ?_
  refine v_icmp_lt C 73 66 rfl (by decide +kernel) (fun h15 => ?_) (fun h15 => ?_)
  · have hf := ite2_t hf h15
    refine v_iload_n C 1 1 rfl 74 rfl (by decide +kernel) ?_
    refine v_iload_n C 0 0 rfl 75 rfl (by decide +kernel) ?_
    refine v_iconst C (1) (1) (by decide) 76 rfl (by decide +kernel) ?_
    refine v_iushr C 77 rfl (by decide +kernel) ?_
    refine v_isub C 78 rfl (by decide +kernel) ?_
    obtain ⟨rfl, rfl⟩ := ret_e hf
    exact v_iret C hr (by decide +kernel)
  · have hf := ite2_f hf h15
    obtain ⟨z16, hz16, hf⟩ := bnd_e hf
    refine v_iinc C 1 (-2) 1 z16 rfl (by rw [hz16]; rfl) [(1, .int z16), (0, .int x0)] (by decide) rfl 69 rfl (by decide +kernel) ?_
    refine v_iload_n C 0 1 rfl 70 rfl (by decide +kernel) ?_
    refine v_iconst C (2) (2) (by decide) 71 rfl (by decide +kernel) ?_
    refine v_iushr C 72 rfl (by decide +kernel) ?_
    obtain ⟨z17, hz17, hf⟩ := bnd_e hf
    refine v_nmI hz17 ?_
    refine v_istore_n C 0 [(0, .int z17), (1, .int z16)] (by decide) rfl 73 rfl (by decide +kernel) ?_
    refine v_iload_n C 1 1 rfl 74 rfl (by decide +kernel) ?_
    refine v_iload_n C 0 0 rfl 75 rfl (by decide +kernel) ?_
    refine v_iconst C (1) (1) (by decide) 76 rfl (by decide +kernel) ?_
    refine v_iushr C 77 rfl (by decide +kernel) ?_
    refine v_isub C 78 rfl (by decide +kernel) ?_
    obtain ⟨rfl, rfl⟩ := ret_e hf
    exact v_iret C hr (by decide +kernel)
theorem t_Integer_numberOfLeadingZeros_48 (G : ns_G) (l : Launch) {p : Program} {e : Env} {s : State} {m : MethodId} {args : Array Value} {below : List Frame} {meth : Method} {c : Code} (C : ns_Cx G p s m args meth c prog_12_method_47_code "java/lang/Integer" 2) (hr : meth.sig.returnType = (some .int)) {r : Int32} {σ' : ns_St}  (σ : ns_St) (x0 : Int32) (x1 : Int32)  (hf : g_Integer_numberOfLeadingZeros_48 σ x0 x1 = some (r, σ')) : VV G p l e { frames := 0, cells := 0, slots := 0, locals := 0 } s m args below meth c 2 0 0 (MQ below (ns_Qc G (some (.int r)) ns_N σ') args s 0 0 (ns_A G)) ns_N σ 48 [(0, .int x0), (1, .int x1)] [] := by
  unfold g_Integer_numberOfLeadingZeros_48 at hf
  refine v_iload_n C 0 0 rfl 49 rfl (by decide +kernel) ?_
  refine v_bipush C (16) (16) (by decide) 51 rfl (by decide +kernel) ?_
  refine v_icmp_lt C 61 54 rfl (by decide +kernel) (fun h18 => ?_) (fun h18 => ?_)
  · have hf := ite2_t hf h18
    exact t_Integer_numberOfLeadingZeros_61 G l C hr  σ x0 x1 hf
  · have hf := ite2_f hf h18
    obtain ⟨z19, hz19, hf⟩ := bnd_e hf
    refine v_iinc C 1 (-4) 1 z19 rfl (by rw [hz19]; rfl) [(1, .int z19), (0, .int x0)] (by decide) rfl 57 rfl (by decide +kernel) ?_
    refine v_iload_n C 0 1 rfl 58 rfl (by decide +kernel) ?_
    refine v_iconst C (4) (4) (by decide) 59 rfl (by decide +kernel) ?_
    refine v_iushr C 60 rfl (by decide +kernel) ?_
    obtain ⟨z20, hz20, hf⟩ := bnd_e hf
    refine v_nmI hz20 ?_
    refine v_istore_n C 0 [(0, .int z20), (1, .int z19)] (by decide) rfl 61 rfl (by decide +kernel) ?_
    exact t_Integer_numberOfLeadingZeros_61 G l C hr  σ z20 z19 hf
theorem t_Integer_numberOfLeadingZeros_33 (G : ns_G) (l : Launch) {p : Program} {e : Env} {s : State} {m : MethodId} {args : Array Value} {below : List Frame} {meth : Method} {c : Code} (C : ns_Cx G p s m args meth c prog_12_method_47_code "java/lang/Integer" 2) (hr : meth.sig.returnType = (some .int)) {r : Int32} {σ' : ns_St}  (σ : ns_St) (x0 : Int32) (x1 : Int32)  (hf : g_Integer_numberOfLeadingZeros_33 σ x0 x1 = some (r, σ')) : VV G p l e { frames := 0, cells := 0, slots := 0, locals := 0 } s m args below meth c 2 0 0 (MQ below (ns_Qc G (some (.int r)) ns_N σ') args s 0 0 (ns_A G)) ns_N σ 33 [(0, .int x0), (1, .int x1)] [] := by
  unfold g_Integer_numberOfLeadingZeros_33 at hf
  refine v_iload_n C 0 0 rfl 34 rfl (by decide +kernel) ?_
  refine v_sipush C (256) (256) (by decide) 37 rfl (by decide +kernel) ?_
  refine v_icmp_lt C 48 40 rfl (by decide +kernel) (fun h21 => ?_) (fun h21 => ?_)
  · have hf := ite2_t hf h21
    exact t_Integer_numberOfLeadingZeros_48 G l C hr  σ x0 x1 hf
  · have hf := ite2_f hf h21
    obtain ⟨z22, hz22, hf⟩ := bnd_e hf
    refine v_iinc C 1 (-8) 1 z22 rfl (by rw [hz22]; rfl) [(1, .int z22), (0, .int x0)] (by decide) rfl 43 rfl (by decide +kernel) ?_
    refine v_iload_n C 0 1 rfl 44 rfl (by decide +kernel) ?_
    refine v_bipush C (8) (8) (by decide) 46 rfl (by decide +kernel) ?_
    refine v_iushr C 47 rfl (by decide +kernel) ?_
    obtain ⟨z23, hz23, hf⟩ := bnd_e hf
    refine v_nmI hz23 ?_
    refine v_istore_n C 0 [(0, .int z23), (1, .int z22)] (by decide) rfl 48 rfl (by decide +kernel) ?_
    exact t_Integer_numberOfLeadingZeros_48 G l C hr  σ z23 z22 hf
theorem c_Integer_numberOfLeadingZeros (G : ns_G) (l : Launch) (σ : ns_St) (x0 : Int32) {r : Int32} {σ' : ns_St} (hf : g_Integer_numberOfLeadingZeros σ x0 = some (r, σ')) : ns_ok G l ⟨"java/lang/Integer", "numberOfLeadingZeros", "(I)I"⟩ prog_12_method_47_code 2 (some .int) 0 0 0 0 [.int x0] ns_N σ (some (.int r)) ns_N σ' := by
  refine v_openF (by decide +kernel) (Nat.le_of_ble_eq_true rfl) rfl ?_
  intro p e s m below meth c C hr _
  have C : ns_Cx G p s m _ meth c prog_12_method_47_code "java/lang/Integer" 2 := C
  unfold g_Integer_numberOfLeadingZeros at hf
  refine v_iload_n C 0 0 rfl 1 rfl (by decide +kernel) ?_
  refine v_if_gt C 15 4 rfl (by decide +kernel) (fun h24 => ?_) (fun h24 => ?_)
  · have hf := ite2_t hf h24
    refine v_bipush C (31) (31) (by decide) 17 rfl (by decide +kernel) ?_
    refine v_istore_n C 1 [(1, .int (31 : Int32)), (0, .int x0)] (by decide) rfl 18 rfl (by decide +kernel) ?_
    refine v_iload_n C 0 1 rfl 19 rfl (by decide +kernel) ?_
    refine v_ldcw C 264 (65536) tw_423 22 rfl (by decide +kernel) ?_
    refine v_icmp_lt C 33 25 rfl (by decide +kernel) (fun h25 => ?_) (fun h25 => ?_)
    · have hf := ite2_t hf h25
      refine v_sub [1, 0] rfl ?_
      exact t_Integer_numberOfLeadingZeros_33 G l C hr  σ x0 (31 : Int32) hf
    · have hf := ite2_f hf h25
      obtain ⟨z26, hz26, hf⟩ := bnd_e hf
      refine v_iinc C 1 (-16) 0 z26 rfl (by rw [hz26]; rfl) [(1, .int z26), (0, .int x0)] (by decide) rfl 28 rfl (by decide +kernel) ?_
      refine v_iload_n C 0 1 rfl 29 rfl (by decide +kernel) ?_
      refine v_bipush C (16) (16) (by decide) 31 rfl (by decide +kernel) ?_
      refine v_iushr C 32 rfl (by decide +kernel) ?_
      obtain ⟨z27, hz27, hf⟩ := bnd_e hf
      refine v_nmI hz27 ?_
      refine v_istore_n C 0 [(0, .int z27), (1, .int z26)] (by decide) rfl 33 rfl (by decide +kernel) ?_
      exact t_Integer_numberOfLeadingZeros_33 G l C hr  σ z27 z26 hf
  · have hf := ite2_f hf h24
    refine v_iload_n C 0 0 rfl 5 rfl (by decide +kernel) ?_
    refine v_if_ne C 13 8 rfl (by decide +kernel) (fun h28 => ?_) (fun h28 => ?_)
    · have hf := ite2_f hf h28
      refine v_iconst C (0) (0) (by decide) 14 rfl (by decide +kernel) ?_
      obtain ⟨rfl, rfl⟩ := ret_e hf
      exact v_iret C hr (by decide +kernel)
    · have hf := ite2_t hf h28
      refine v_bipush C (32) (32) (by decide) 10 rfl (by decide +kernel) ?_
      refine v_goto C 14 (by decide +kernel) ?_
      obtain ⟨rfl, rfl⟩ := ret_e hf
      exact v_iret C hr (by decide +kernel)
theorem hd_Integer_numberOfLeadingZeros : (⟨"java/lang/Integer", "numberOfLeadingZeros", "(I)I"⟩ : MethodName).cls ≠ "java/lang/invoke/MethodHandle" ∧ (⟨"java/lang/Integer", "numberOfLeadingZeros", "(I)I"⟩ : MethodName).cls ≠ "java/lang/invoke/VarHandle" ∧ (parseMethodDescriptor (⟨"java/lang/Integer", "numberOfLeadingZeros", "(I)I"⟩ : MethodName).desc).map (fun d => d.parameters.length) = some 1 := by decide +kernel
def g_Long_bitCount (σ : ns_St) (x0 : Int64) : Option (Int32 × ns_St) := bnd (x0 - (((x0.toUInt64 >>> ((1 : Int32).toInt64.toUInt64 &&& Int64.toUInt64 63)).toInt64) &&& (6148914691236517205 : Int64))) fun z7 => bnd ((z7 &&& (3689348814741910323 : Int64)) + (((z7.toUInt64 >>> ((2 : Int32).toInt64.toUInt64 &&& Int64.toUInt64 63)).toInt64) &&& (3689348814741910323 : Int64))) fun z8 => bnd ((z8 + ((z8.toUInt64 >>> ((4 : Int32).toInt64.toUInt64 &&& Int64.toUInt64 63)).toInt64)) &&& (1085102592571150095 : Int64)) fun z9 => bnd (z9 + ((z9.toUInt64 >>> ((8 : Int32).toInt64.toUInt64 &&& Int64.toUInt64 63)).toInt64)) fun z10 => bnd (z10 + ((z10.toUInt64 >>> ((16 : Int32).toInt64.toUInt64 &&& Int64.toUInt64 63)).toInt64)) fun z11 => bnd (z11 + ((z11.toUInt64 >>> ((32 : Int32).toInt64.toUInt64 &&& Int64.toUInt64 63)).toInt64)) fun z12 => some (((z12.toInt32) &&& (127 : Int32)), σ)
theorem c_Long_bitCount (G : ns_G) (l : Launch) (σ : ns_St) (x0 : Int64) {r : Int32} {σ' : ns_St} (hf : g_Long_bitCount σ x0 = some (r, σ')) : ns_ok G l ⟨"java/lang/Long", "bitCount", "(J)I"⟩ prog_13_method_50_code 2 (some .int) 0 0 0 0 [.long x0] ns_N σ (some (.int r)) ns_N σ' := by
  refine v_openF (by decide +kernel) (Nat.le_of_ble_eq_true rfl) rfl ?_
  intro p e s m below meth c C hr _
  have C : ns_Cx G p s m _ meth c prog_13_method_50_code "java/lang/Long" 2 := C
  unfold g_Long_bitCount at hf
  refine v_lload_n C 0 0 rfl 1 rfl (by decide +kernel) ?_
  refine v_lload_n C 0 0 rfl 2 rfl (by decide +kernel) ?_
  refine v_iconst C (1) (1) (by decide) 3 rfl (by decide +kernel) ?_
  refine v_lushr C 4 rfl (by decide +kernel) ?_
  refine v_ldc2 C 314 (6148914691236517205) tw_411 7 rfl (by decide +kernel) ?_
  refine v_land C 8 rfl (by decide +kernel) ?_
  refine v_lsub C 9 rfl (by decide +kernel) ?_
  obtain ⟨z7, hz7, hf⟩ := bnd_e hf
  refine v_nmJ hz7 ?_
  refine v_lstore_n C 0 [(0, .long z7)] (by decide) rfl 10 rfl (by decide +kernel) ?_
  refine v_lload_n C 0 0 rfl 11 rfl (by decide +kernel) ?_
  refine v_ldc2 C 316 (3689348814741910323) tw_412 14 rfl (by decide +kernel) ?_
  refine v_land C 15 rfl (by decide +kernel) ?_
  refine v_lload_n C 0 0 rfl 16 rfl (by decide +kernel) ?_
  refine v_iconst C (2) (2) (by decide) 17 rfl (by decide +kernel) ?_
  refine v_lushr C 18 rfl (by decide +kernel) ?_
  refine v_ldc2 C 316 (3689348814741910323) tw_412 21 rfl (by decide +kernel) ?_
  refine v_land C 22 rfl (by decide +kernel) ?_
  refine v_ladd C 23 rfl (by decide +kernel) ?_
  obtain ⟨z8, hz8, hf⟩ := bnd_e hf
  refine v_nmJ hz8 ?_
  refine v_lstore_n C 0 [(0, .long z8)] (by decide) rfl 24 rfl (by decide +kernel) ?_
  refine v_lload_n C 0 0 rfl 25 rfl (by decide +kernel) ?_
  refine v_lload_n C 0 0 rfl 26 rfl (by decide +kernel) ?_
  refine v_iconst C (4) (4) (by decide) 27 rfl (by decide +kernel) ?_
  refine v_lushr C 28 rfl (by decide +kernel) ?_
  refine v_ladd C 29 rfl (by decide +kernel) ?_
  refine v_ldc2 C 318 (1085102592571150095) tw_413 32 rfl (by decide +kernel) ?_
  refine v_land C 33 rfl (by decide +kernel) ?_
  obtain ⟨z9, hz9, hf⟩ := bnd_e hf
  refine v_nmJ hz9 ?_
  refine v_lstore_n C 0 [(0, .long z9)] (by decide) rfl 34 rfl (by decide +kernel) ?_
  refine v_lload_n C 0 0 rfl 35 rfl (by decide +kernel) ?_
  refine v_lload_n C 0 0 rfl 36 rfl (by decide +kernel) ?_
  refine v_bipush C (8) (8) (by decide) 38 rfl (by decide +kernel) ?_
  refine v_lushr C 39 rfl (by decide +kernel) ?_
  refine v_ladd C 40 rfl (by decide +kernel) ?_
  obtain ⟨z10, hz10, hf⟩ := bnd_e hf
  refine v_nmJ hz10 ?_
  refine v_lstore_n C 0 [(0, .long z10)] (by decide) rfl 41 rfl (by decide +kernel) ?_
  refine v_lload_n C 0 0 rfl 42 rfl (by decide +kernel) ?_
  refine v_lload_n C 0 0 rfl 43 rfl (by decide +kernel) ?_
  refine v_bipush C (16) (16) (by decide) 45 rfl (by decide +kernel) ?_
  refine v_lushr C 46 rfl (by decide +kernel) ?_
  refine v_ladd C 47 rfl (by decide +kernel) ?_
  obtain ⟨z11, hz11, hf⟩ := bnd_e hf
  refine v_nmJ hz11 ?_
  refine v_lstore_n C 0 [(0, .long z11)] (by decide) rfl 48 rfl (by decide +kernel) ?_
  refine v_lload_n C 0 0 rfl 49 rfl (by decide +kernel) ?_
  refine v_lload_n C 0 0 rfl 50 rfl (by decide +kernel) ?_
  refine v_bipush C (32) (32) (by decide) 52 rfl (by decide +kernel) ?_
  refine v_lushr C 53 rfl (by decide +kernel) ?_
  refine v_ladd C 54 rfl (by decide +kernel) ?_
  obtain ⟨z12, hz12, hf⟩ := bnd_e hf
  refine v_nmJ hz12 ?_
  refine v_lstore_n C 0 [(0, .long z12)] (by decide) rfl 55 rfl (by decide +kernel) ?_
  refine v_lload_n C 0 0 rfl 56 rfl (by decide +kernel) ?_
  refine v_l2i C 57 rfl (by decide +kernel) ?_
  refine v_bipush C (127) (127) (by decide) 59 rfl (by decide +kernel) ?_
  refine v_iand C 60 rfl (by decide +kernel) ?_
  obtain ⟨rfl, rfl⟩ := ret_e hf
  exact v_iret C hr (by decide +kernel)
theorem hd_Long_bitCount : (⟨"java/lang/Long", "bitCount", "(J)I"⟩ : MethodName).cls ≠ "java/lang/invoke/MethodHandle" ∧ (⟨"java/lang/Long", "bitCount", "(J)I"⟩ : MethodName).cls ≠ "java/lang/invoke/VarHandle" ∧ (parseMethodDescriptor (⟨"java/lang/Long", "bitCount", "(J)I"⟩ : MethodName).desc).map (fun d => d.parameters.length) = some 1 := by decide +kernel
def g_Long_numberOfTrailingZeros (σ : ns_St) (x0 : Int64) : Option (Int32 × ns_St) := bnd (x0.toInt32) fun z7 => ite2 (z7 = 0) (cl2 (g_Integer_numberOfTrailingZeros σ (((x0.toUInt64 >>> ((32 : Int32).toInt64.toUInt64 &&& Int64.toUInt64 63)).toInt64).toInt32)) fun r12 σ11 => some (((32 : Int32) + r12), σ11)) (cl2 (g_Integer_numberOfTrailingZeros σ z7) fun r10 σ9 => some (r10, σ9))
theorem c_Long_numberOfTrailingZeros (G : ns_G) (l : Launch) (σ : ns_St) (x0 : Int64) {r : Int32} {σ' : ns_St} (hf : g_Long_numberOfTrailingZeros σ x0 = some (r, σ')) : ns_ok G l ⟨"java/lang/Long", "numberOfTrailingZeros", "(J)I"⟩ prog_13_method_49_code 3 (some .int) 1 21 0 0 [.long x0] ns_N σ (some (.int r)) ns_N σ' := by
  refine v_openF (by decide +kernel) (Nat.le_of_ble_eq_true rfl) rfl ?_
  intro p e s m below meth c C hr _
  have C : ns_Cx G p s m _ meth c prog_13_method_49_code "java/lang/Long" 3 := C
  unfold g_Long_numberOfTrailingZeros at hf
  refine v_lload_n C 0 0 rfl 1 rfl (by decide +kernel) ?_
  refine v_l2i C 2 rfl (by decide +kernel) ?_
  obtain ⟨z7, hz7, hf⟩ := bnd_e hf
  refine v_nmI hz7 ?_
  refine v_istore_n C 2 [(2, .int z7), (0, .long x0)] (by decide) rfl 3 rfl (by decide +kernel) ?_
  refine v_iload_n C 2 0 rfl 4 rfl (by decide +kernel) ?_
  refine v_if_ne C 21 7 rfl (by decide +kernel) (fun h8 => ?_) (fun h8 => ?_)
  · have hf := ite2_f hf h8
    refine v_iload_n C 2 0 rfl 22 rfl (by decide +kernel) ?_
    obtain ⟨r10, σ9, hcr10, hf⟩ := cl2_e hf
    refine v_cS C [.int z7] [] (c_Integer_numberOfTrailingZeros G l σ z7 hcr10) 311 1 tw_422 tw_420 tw_421 tw_13 hd_Integer_numberOfTrailingZeros rfl ⟨(Nat.le_of_ble_eq_true rfl), (Nat.le_of_ble_eq_true rfl)⟩ ⟨(Nat.le_of_ble_eq_true rfl), (Nat.le_of_ble_eq_true rfl)⟩ (Nat.le_of_ble_eq_true rfl) rfl 25 rfl (by decide +kernel) [.int r10] rfl ?_
    obtain ⟨rfl, rfl⟩ := ret_e hf
    exact v_iret C hr (by decide +kernel)
  · have hf := ite2_t hf h8
    refine v_bipush C (32) (32) (by decide) 9 rfl (by decide +kernel) ?_
    refine v_lload_n C 0 1 rfl 10 rfl (by decide +kernel) ?_
    refine v_bipush C (32) (32) (by decide) 12 rfl (by decide +kernel) ?_
    refine v_lushr C 13 rfl (by decide +kernel) ?_
    refine v_l2i C 14 rfl (by decide +kernel) ?_
    obtain ⟨r12, σ11, hcr12, hf⟩ := cl2_e hf
    refine v_cS C [.int (((x0.toUInt64 >>> ((32 : Int32).toInt64.toUInt64 &&& Int64.toUInt64 63)).toInt64).toInt32)] [.int (32 : Int32)] (c_Integer_numberOfTrailingZeros G l σ (((x0.toUInt64 >>> ((32 : Int32).toInt64.toUInt64 &&& Int64.toUInt64 63)).toInt64).toInt32) hcr12) 311 1 tw_422 tw_420 tw_421 tw_13 hd_Integer_numberOfTrailingZeros rfl ⟨(Nat.le_of_ble_eq_true rfl), (Nat.le_of_ble_eq_true rfl)⟩ ⟨(Nat.le_of_ble_eq_true rfl), (Nat.le_of_ble_eq_true rfl)⟩ (Nat.le_of_ble_eq_true rfl) rfl 17 rfl (by decide +kernel) [.int r12, .int (32 : Int32)] rfl ?_
    refine v_iadd C 18 rfl (by decide +kernel) ?_
    refine v_goto C 25 (by decide +kernel) ?_
    obtain ⟨rfl, rfl⟩ := ret_e hf
    exact v_iret C hr (by decide +kernel)
theorem hd_Long_numberOfTrailingZeros : (⟨"java/lang/Long", "numberOfTrailingZeros", "(J)I"⟩ : MethodName).cls ≠ "java/lang/invoke/MethodHandle" ∧ (⟨"java/lang/Long", "numberOfTrailingZeros", "(J)I"⟩ : MethodName).cls ≠ "java/lang/invoke/VarHandle" ∧ (parseMethodDescriptor (⟨"java/lang/Long", "numberOfTrailingZeros", "(J)I"⟩ : MethodName).desc).map (fun d => d.parameters.length) = some 1 := by decide +kernel
def g_Long_numberOfLeadingZeros (σ : ns_St) (x0 : Int64) : Option (Int32 × ns_St) := bnd (((x0.toUInt64 >>> ((32 : Int32).toInt64.toUInt64 &&& Int64.toUInt64 63)).toInt64).toInt32) fun z7 => ite2 (z7 = 0) (cl2 (g_Integer_numberOfLeadingZeros σ (x0.toInt32)) fun r12 σ11 => some (((32 : Int32) + r12), σ11)) (cl2 (g_Integer_numberOfLeadingZeros σ z7) fun r10 σ9 => some (r10, σ9))
theorem c_Long_numberOfLeadingZeros (G : ns_G) (l : Launch) (σ : ns_St) (x0 : Int64) {r : Int32} {σ' : ns_St} (hf : g_Long_numberOfLeadingZeros σ x0 = some (r, σ')) : ns_ok G l ⟨"java/lang/Long", "numberOfLeadingZeros", "(J)I"⟩ prog_13_method_48_code 3 (some .int) 1 21 0 0 [.long x0] ns_N σ (some (.int r)) ns_N σ' := by
  refine v_openF (by decide +kernel) (Nat.le_of_ble_eq_true rfl) rfl ?_
  intro p e s m below meth c C hr _
  have C : ns_Cx G p s m _ meth c prog_13_method_48_code "java/lang/Long" 3 := C
  unfold g_Long_numberOfLeadingZeros at hf
  refine v_lload_n C 0 0 rfl 1 rfl (by decide +kernel) ?_
  refine v_bipush C (32) (32) (by decide) 3 rfl (by decide +kernel) ?_
  refine v_lushr C 4 rfl (by decide +kernel) ?_
  refine v_l2i C 5 rfl (by decide +kernel) ?_
  obtain ⟨z7, hz7, hf⟩ := bnd_e hf
  refine v_nmI hz7 ?_
  refine v_istore_n C 2 [(2, .int z7), (0, .long x0)] (by decide) rfl 6 rfl (by decide +kernel) ?_
  refine v_iload_n C 2 0 rfl 7 rfl (by decide +kernel) ?_
  refine v_if_ne C 21 10 rfl (by decide +kernel) (fun h8 => ?_) (fun h8 => ?_)
  · have hf := ite2_f hf h8
    refine v_iload_n C 2 0 rfl 22 rfl (by decide +kernel) ?_
    obtain ⟨r10, σ9, hcr10, hf⟩ := cl2_e hf
    refine v_cS C [.int z7] [] (c_Integer_numberOfLeadingZeros G l σ z7 hcr10) 308 1 tw_440 tw_438 tw_439 tw_13 hd_Integer_numberOfLeadingZeros rfl ⟨(Nat.le_of_ble_eq_true rfl), (Nat.le_of_ble_eq_true rfl)⟩ ⟨(Nat.le_of_ble_eq_true rfl), (Nat.le_of_ble_eq_true rfl)⟩ (Nat.le_of_ble_eq_true rfl) rfl 25 rfl (by decide +kernel) [.int r10] rfl ?_
    obtain ⟨rfl, rfl⟩ := ret_e hf
    exact v_iret C hr (by decide +kernel)
  · have hf := ite2_t hf h8
    refine v_bipush C (32) (32) (by decide) 12 rfl (by decide +kernel) ?_
    refine v_lload_n C 0 1 rfl 13 rfl (by decide +kernel) ?_
    refine v_l2i C 14 rfl (by decide +kernel) ?_
    obtain ⟨r12, σ11, hcr12, hf⟩ := cl2_e hf
    refine v_cS C [.int (x0.toInt32)] [.int (32 : Int32)] (c_Integer_numberOfLeadingZeros G l σ (x0.toInt32) hcr12) 308 1 tw_440 tw_438 tw_439 tw_13 hd_Integer_numberOfLeadingZeros rfl ⟨(Nat.le_of_ble_eq_true rfl), (Nat.le_of_ble_eq_true rfl)⟩ ⟨(Nat.le_of_ble_eq_true rfl), (Nat.le_of_ble_eq_true rfl)⟩ (Nat.le_of_ble_eq_true rfl) rfl 17 rfl (by decide +kernel) [.int r12, .int (32 : Int32)] rfl ?_
    refine v_iadd C 18 rfl (by decide +kernel) ?_
    refine v_goto C 25 (by decide +kernel) ?_
    obtain ⟨rfl, rfl⟩ := ret_e hf
    exact v_iret C hr (by decide +kernel)
theorem hd_Long_numberOfLeadingZeros : (⟨"java/lang/Long", "numberOfLeadingZeros", "(J)I"⟩ : MethodName).cls ≠ "java/lang/invoke/MethodHandle" ∧ (⟨"java/lang/Long", "numberOfLeadingZeros", "(J)I"⟩ : MethodName).cls ≠ "java/lang/invoke/VarHandle" ∧ (parseMethodDescriptor (⟨"java/lang/Long", "numberOfLeadingZeros", "(J)I"⟩ : MethodName).desc).map (fun d => d.parameters.length) = some 1 := by decide +kernel
def g_String_coder (σ : ns_St) (a0 : Nat) : Option (Int32 × ns_St) := grd (a0 < 8) <| ite2 ((1 : Int32) = 0) (some ((1 : Int32), σ)) (some ((0 : Int32), σ))
theorem c_String_coder (G : ns_G) (l : Launch) (σ : ns_St) (a0 : Nat) {r : Int32} {σ' : ns_St} (hf : g_String_coder σ a0 = some (r, σ')) : ns_ok G l ⟨"java/lang/String", "coder", "()B"⟩ prog_15_method_152_code 1 (some .byte) 0 0 0 0 [.ref (ns_sK G a0)] ns_N σ (some (.int r)) ns_N σ' := by
  refine v_openF (by decide +kernel) (Nat.le_of_ble_eq_true rfl) rfl ?_
  intro p e s m below meth c C hr _
  have C : ns_Cx G p s m _ meth c prog_15_method_152_code "java/lang/String" 1 := C
  unfold g_String_coder at hf
  obtain ⟨hk_a0, hf⟩ := grd_e hf
  refine v_getsI C 38 tw_551 3 rfl (by decide +kernel) ?_
  refine v_if_eq C 13 6 rfl (by decide +kernel) (fun h2 => ?_) (fun h2 => ?_)
  · have hf := ite2_t hf h2
    refine v_iconst C (1) (1) (by decide) 14 rfl (by decide +kernel) ?_
    obtain ⟨rfl, rfl⟩ := ret_e hf
    exact v_nret C hr rfl (by decide +kernel)
  · have hf := ite2_f hf h2
    refine v_aload_n C 0 0 rfl 7 rfl (by decide +kernel) ?_
    refine v_getC C hk_a0 15 tw_1418 10 rfl (by decide +kernel) ?_
    refine v_goto C 14 (by decide +kernel) ?_
    obtain ⟨rfl, rfl⟩ := ret_e hf
    exact v_nret C hr rfl (by decide +kernel)
theorem hd_String_coder : (⟨"java/lang/String", "coder", "()B"⟩ : MethodName).cls = "java/lang/String" ∧ (⟨"java/lang/String", "coder", "()B"⟩ : MethodName).cls ≠ "java/lang/invoke/MethodHandle" ∧ (⟨"java/lang/String", "coder", "()B"⟩ : MethodName).cls ≠ "java/lang/invoke/VarHandle" ∧ (parseMethodDescriptor (⟨"java/lang/String", "coder", "()B"⟩ : MethodName).desc).map (fun d => d.parameters.length) = some 0 := by decide +kernel
def g_String_length (σ : ns_St) (a0 : Nat) : Option (Int32 × ns_St) := grd (a0 < 8) <| bnd (Int32.ofNat (ns_sL.getD a0 0)) fun z4 => cl2 (g_String_coder σ a0) fun r6 σ5 => some ((z4 >>> (r6 &&& 31)), σ5)
theorem c_String_length (G : ns_G) (l : Launch) (σ : ns_St) (a0 : Nat) {r : Int32} {σ' : ns_St} (hf : g_String_length σ a0 = some (r, σ')) : ns_ok G l ⟨"java/lang/String", "length", "()I"⟩ prog_15_method_54_code 1 (some .int) 1 20 0 0 [.ref (ns_sK G a0)] ns_N σ (some (.int r)) ns_N σ' := by
  refine v_openF (by decide +kernel) (Nat.le_of_ble_eq_true rfl) rfl ?_
  intro p e s m below meth c C hr _
  have C : ns_Cx G p s m _ meth c prog_15_method_54_code "java/lang/String" 1 := C
  unfold g_String_length at hf
  obtain ⟨hk_a0, hf⟩ := grd_e hf
  refine v_aload_n C 0 0 rfl 1 rfl (by decide +kernel) ?_
  refine v_getV C hk_a0 9 tw_1417 4 rfl (by decide +kernel) ?_
  obtain ⟨z4, hz4, hf⟩ := bnd_e hf
  refine v_tlen C hk_a0 z4 hz4 5 rfl (by decide +kernel) ?_
  refine v_aload_n C 0 0 rfl 6 rfl (by decide +kernel) ?_
  obtain ⟨r6, σ5, hcr6, hf⟩ := cl2_e hf
  refine v_cVT C hk_a0 [] [.int z4] (c_String_coder G l σ a0 hcr6) 335 0 tw_550 tw_547 tw_548 tw_549 tw_14 hd_String_coder rfl ⟨(Nat.le_of_ble_eq_true rfl), (Nat.le_of_ble_eq_true rfl)⟩ ⟨(Nat.le_of_ble_eq_true rfl), (Nat.le_of_ble_eq_true rfl)⟩ (Nat.le_of_ble_eq_true rfl) rfl 9 rfl (by decide +kernel) [.int r6, .int z4] rfl ?_
  refine v_ishr C 10 rfl (by decide +kernel) ?_
  obtain ⟨rfl, rfl⟩ := ret_e hf
  exact v_iret C hr (by decide +kernel)
theorem hd_String_length : (⟨"java/lang/String", "length", "()I"⟩ : MethodName).cls = "java/lang/String" ∧ (⟨"java/lang/String", "length", "()I"⟩ : MethodName).cls ≠ "java/lang/invoke/MethodHandle" ∧ (⟨"java/lang/String", "length", "()I"⟩ : MethodName).cls ≠ "java/lang/invoke/VarHandle" ∧ (parseMethodDescriptor (⟨"java/lang/String", "length", "()I"⟩ : MethodName).desc).map (fun d => d.parameters.length) = some 0 := by decide +kernel
def g_String_isLatin1 (σ : ns_St) (a0 : Nat) : Option (Int32 × ns_St) := grd (a0 < 8) <| ite2 ((1 : Int32) = 0) (some ((0 : Int32), σ)) (ite2 ((0 : Int32) = 0) (some ((1 : Int32), σ)) (some ((0 : Int32), σ)))
theorem c_String_isLatin1 (G : ns_G) (l : Launch) (σ : ns_St) (a0 : Nat) {r : Int32} {σ' : ns_St} (hf : g_String_isLatin1 σ a0 = some (r, σ')) : ns_ok G l ⟨"java/lang/String", "isLatin1", "()Z"⟩ prog_15_method_154_code 1 (some .boolean) 0 0 0 0 [.ref (ns_sK G a0)] ns_N σ (some (.int r)) ns_N σ' := by
  refine v_openF (by decide +kernel) (Nat.le_of_ble_eq_true rfl) rfl ?_
  intro p e s m below meth c C hr _
  have C : ns_Cx G p s m _ meth c prog_15_method_154_code "java/lang/String" 1 := C
  unfold g_String_isLatin1 at hf
  obtain ⟨hk_a0, hf⟩ := grd_e hf
  refine v_getsI C 38 tw_551 3 rfl (by decide +kernel) ?_
  refine v_if_eq C 17 6 rfl (by decide +kernel) (fun h3 => ?_) (fun h3 => ?_)
  · have hf := ite2_t hf h3
    refine v_iconst C (0) (0) (by decide) 18 rfl (by decide +kernel) ?_
    obtain ⟨rfl, rfl⟩ := ret_e hf
    exact v_zret C hr rfl (by decide +kernel)
  · have hf := ite2_f hf h3
    refine v_aload_n C 0 0 rfl 7 rfl (by decide +kernel) ?_
    refine v_getC C hk_a0 15 tw_1418 10 rfl (by decide +kernel) ?_
    refine v_if_ne C 17 13 rfl (by decide +kernel) (fun h4 => ?_) (fun h4 => ?_)
    · have hf := ite2_f hf h4
      refine v_iconst C (0) (0) (by decide) 18 rfl (by decide +kernel) ?_
      obtain ⟨rfl, rfl⟩ := ret_e hf
      exact v_zret C hr rfl (by decide +kernel)
    · have hf := ite2_t hf h4
      refine v_iconst C (1) (1) (by decide) 14 rfl (by decide +kernel) ?_
      refine v_goto C 18 (by decide +kernel) ?_
      obtain ⟨rfl, rfl⟩ := ret_e hf
      exact v_zret C hr rfl (by decide +kernel)
theorem hd_String_isLatin1 : (⟨"java/lang/String", "isLatin1", "()Z"⟩ : MethodName).cls = "java/lang/String" ∧ (⟨"java/lang/String", "isLatin1", "()Z"⟩ : MethodName).cls ≠ "java/lang/invoke/MethodHandle" ∧ (⟨"java/lang/String", "isLatin1", "()Z"⟩ : MethodName).cls ≠ "java/lang/invoke/VarHandle" ∧ (parseMethodDescriptor (⟨"java/lang/String", "isLatin1", "()Z"⟩ : MethodName).desc).map (fun d => d.parameters.length) = some 0 := by decide +kernel
def g_Preconditions_checkIndex (σ : ns_St) (x0 : Int32) (x1 : Int32) : Option (Int32 × ns_St) := ite2 (x0 < 0) (none) (ite2 (x0 < x1) (some (x0, σ)) (none))
theorem c_Preconditions_checkIndex (G : ns_G) (l : Launch) (σ : ns_St) (x0 : Int32) (x1 : Int32) (x2 : Option Nat) {r : Int32} {σ' : ns_St} (hf : g_Preconditions_checkIndex σ x0 x1 = some (r, σ')) : ns_ok G l ⟨"jdk/internal/util/Preconditions", "checkIndex", "(IILjava/util/function/BiFunction;)I"⟩ prog_19_method_11_code 3 (some .int) 0 0 0 0 [.int x0, .int x1, va_rf x2] ns_N σ (some (.int r)) ns_N σ' := by
  rcases x2 with _ | x2
  · refine v_openF (by decide +kernel) (Nat.le_of_ble_eq_true rfl) rfl ?_
    intro p e s m below meth c C hr _
    have C : ns_Cx G p s m _ meth c prog_19_method_11_code "jdk/internal/util/Preconditions" 3 := C
    unfold g_Preconditions_checkIndex at hf
    refine v_iload_n C 0 0 rfl 1 rfl (by decide +kernel) ?_
    refine v_if_lt C 9 4 rfl (by decide +kernel) (fun h3 => ?_) (fun h3 => ?_)
    · have hf := ite2_t hf h3
      cases hf
    · have hf := ite2_f hf h3
      refine v_iload_n C 0 0 rfl 5 rfl (by decide +kernel) ?_
      refine v_iload_n C 1 1 rfl 6 rfl (by decide +kernel) ?_
      refine v_icmp_lt C 16 9 rfl (by decide +kernel) (fun h4 => ?_) (fun h4 => ?_)
      · have hf := ite2_t hf h4
        refine v_iload_n C 0 0 rfl 17 rfl (by decide +kernel) ?_
        obtain ⟨rfl, rfl⟩ := ret_e hf
        exact v_iret C hr (by decide +kernel)
      · have hf := ite2_f hf h4
        cases hf
  · refine v_openF (by decide +kernel) (Nat.le_of_ble_eq_true rfl) rfl ?_
    intro p e s m below meth c C hr _
    have C : ns_Cx G p s m _ meth c prog_19_method_11_code "jdk/internal/util/Preconditions" 3 := C
    unfold g_Preconditions_checkIndex at hf
    refine v_iload_n C 0 0 rfl 1 rfl (by decide +kernel) ?_
    refine v_if_lt C 9 4 rfl (by decide +kernel) (fun h3 => ?_) (fun h3 => ?_)
    · have hf := ite2_t hf h3
      cases hf
    · have hf := ite2_f hf h3
      refine v_iload_n C 0 0 rfl 5 rfl (by decide +kernel) ?_
      refine v_iload_n C 1 1 rfl 6 rfl (by decide +kernel) ?_
      refine v_icmp_lt C 16 9 rfl (by decide +kernel) (fun h4 => ?_) (fun h4 => ?_)
      · have hf := ite2_t hf h4
        refine v_iload_n C 0 0 rfl 17 rfl (by decide +kernel) ?_
        obtain ⟨rfl, rfl⟩ := ret_e hf
        exact v_iret C hr (by decide +kernel)
      · have hf := ite2_f hf h4
        cases hf
theorem hd_Preconditions_checkIndex : (⟨"jdk/internal/util/Preconditions", "checkIndex", "(IILjava/util/function/BiFunction;)I"⟩ : MethodName).cls ≠ "java/lang/invoke/MethodHandle" ∧ (⟨"jdk/internal/util/Preconditions", "checkIndex", "(IILjava/util/function/BiFunction;)I"⟩ : MethodName).cls ≠ "java/lang/invoke/VarHandle" ∧ (parseMethodDescriptor (⟨"jdk/internal/util/Preconditions", "checkIndex", "(IILjava/util/function/BiFunction;)I"⟩ : MethodName).desc).map (fun d => d.parameters.length) = some 3 := by decide +kernel
def g_String_checkIndex (σ : ns_St) (x0 : Int32) (x1 : Int32) : Option (Unit × ns_St) := cl2 (g_Preconditions_checkIndex σ x0 x1) fun r4 σ3 => some ((), σ3)
theorem c_String_checkIndex (G : ns_G) (l : Launch) (σ : ns_St) (x0 : Int32) (x1 : Int32) {r : Unit} {σ' : ns_St} (hf : g_String_checkIndex σ x0 x1 = some (r, σ')) : ns_ok G l ⟨"java/lang/String", "checkIndex", "(II)V"⟩ prog_15_method_155_code 2 none 1 22 0 0 [.int x0, .int x1] ns_N σ none ns_N σ' := by
  refine v_openF (by decide +kernel) (Nat.le_of_ble_eq_true rfl) rfl ?_
  intro p e s m below meth c C hr _
  have C : ns_Cx G p s m _ meth c prog_15_method_155_code "java/lang/String" 2 := C
  unfold g_String_checkIndex at hf
  refine v_iload_n C 0 0 rfl 1 rfl (by decide +kernel) ?_
  refine v_iload_n C 1 1 rfl 2 rfl (by decide +kernel) ?_
  refine v_getsF C 1053 tw_567 5 rfl (by decide +kernel) ?_
  obtain ⟨r4, σ3, hcr4, hf⟩ := cl2_e hf
  refine v_cS C [.int x0, .int x1, va_rf (G.2.2.2.2.2.2.2)] [] (c_Preconditions_checkIndex G l σ x0 x1 (G.2.2.2.2.2.2.2) hcr4) 1059 3 tw_571 tw_569 tw_570 tw_16 hd_Preconditions_checkIndex rfl ⟨(Nat.le_of_ble_eq_true rfl), (Nat.le_of_ble_eq_true rfl)⟩ ⟨(Nat.le_of_ble_eq_true rfl), (Nat.le_of_ble_eq_true rfl)⟩ (Nat.le_of_ble_eq_true rfl) rfl 8 rfl (by decide +kernel) [.int r4] rfl ?_
  refine v_pop C rfl 9 rfl (by decide +kernel) ?_
  obtain ⟨rfl, rfl⟩ := ret_e hf
  exact v_vret C hr (by decide +kernel)
theorem hd_String_checkIndex : (⟨"java/lang/String", "checkIndex", "(II)V"⟩ : MethodName).cls ≠ "java/lang/invoke/MethodHandle" ∧ (⟨"java/lang/String", "checkIndex", "(II)V"⟩ : MethodName).cls ≠ "java/lang/invoke/VarHandle" ∧ (parseMethodDescriptor (⟨"java/lang/String", "checkIndex", "(II)V"⟩ : MethodName).desc).map (fun d => d.parameters.length) = some 2 := by decide +kernel
def g_StringLatin1_charAt (σ : ns_St) (x0 : Nat) (x1 : Int32) : Option (Int32 × ns_St) := grd (x0 < 8) <| bnd (Int32.ofNat (ns_sL.getD x0 0)) fun z7 => cl2 (g_String_checkIndex σ x1 z7) fun r9 σ8 => grd (ns_in x1 (ns_sL.getD x0 0)) <| bnd (((((ns_sB.getD x0 []).getD (ns_ix x1) 0) &&& (255 : Int32)).toUInt32 % 65536).toInt32) fun z11 => grd ((z11.toUInt32 % 65536).toInt32 = z11) <| some (z11, σ8)
theorem c_StringLatin1_charAt (G : ns_G) (l : Launch) (σ : ns_St) (x0 : Nat) (x1 : Int32) {r : Int32} {σ' : ns_St} (hf : g_StringLatin1_charAt σ x0 x1 = some (r, σ')) : ns_ok G l ⟨"java/lang/StringLatin1", "charAt", "([BI)C"⟩ prog_16_method_2_code 2 (some .char) 2 43 0 0 [.ref (ns_sV G x0), .int x1] ns_N σ (some (.int r)) ns_N σ' := by
  refine v_openF (by decide +kernel) (Nat.le_of_ble_eq_true rfl) rfl ?_
  intro p e s m below meth c C hr _
  have C : ns_Cx G p s m _ meth c prog_16_method_2_code "java/lang/StringLatin1" 2 := C
  unfold g_StringLatin1_charAt at hf
  obtain ⟨hk_x0, hf⟩ := grd_e hf
  refine v_iload_n C 1 1 rfl 1 rfl (by decide +kernel) ?_
  refine v_aload_n C 0 0 rfl 2 rfl (by decide +kernel) ?_
  obtain ⟨z7, hz7, hf⟩ := bnd_e hf
  refine v_tlen C hk_x0 z7 hz7 3 rfl (by decide +kernel) ?_
  obtain ⟨r9, σ8, hcr9, hf⟩ := cl2_e hf
  refine v_cS C [.int x1, .int z7] [] (c_String_checkIndex G l σ x1 z7 hcr9) 9 2 tw_566 tw_564 tw_565 tw_14 hd_String_checkIndex rfl ⟨(Nat.le_of_ble_eq_true rfl), (Nat.le_of_ble_eq_true rfl)⟩ ⟨(Nat.le_of_ble_eq_true rfl), (Nat.le_of_ble_eq_true rfl)⟩ (Nat.le_of_ble_eq_true rfl) rfl 6 rfl (by decide +kernel) [] rfl ?_
  refine v_aload_n C 0 0 rfl 7 rfl (by decide +kernel) ?_
  refine v_iload_n C 1 1 rfl 8 rfl (by decide +kernel) ?_
  obtain ⟨hi10, hf⟩ := grd_e hf
  refine v_bald C hk_x0 hi10 9 rfl (by decide +kernel) ?_
  refine v_sipush C (255) (255) (by decide) 12 rfl (by decide +kernel) ?_
  refine v_iand C 13 rfl (by decide +kernel) ?_
  refine v_i2c C 14 rfl (by decide +kernel) ?_
  obtain ⟨z11, hz11, hf⟩ := bnd_e hf
  refine v_nmI hz11 ?_
  obtain ⟨hz12, hf⟩ := grd_e hf
  obtain ⟨rfl, rfl⟩ := ret_e hf
  exact v_nret C hr (ns_c16 hz12) (by decide +kernel)
theorem hd_StringLatin1_charAt : (⟨"java/lang/StringLatin1", "charAt", "([BI)C"⟩ : MethodName).cls ≠ "java/lang/invoke/MethodHandle" ∧ (⟨"java/lang/StringLatin1", "charAt", "([BI)C"⟩ : MethodName).cls ≠ "java/lang/invoke/VarHandle" ∧ (parseMethodDescriptor (⟨"java/lang/StringLatin1", "charAt", "([BI)C"⟩ : MethodName).desc).map (fun d => d.parameters.length) = some 2 := by decide +kernel
def g_String_charAt (σ : ns_St) (a0 : Nat) (x1 : Int32) : Option (Int32 × ns_St) := grd (a0 < 8) <| cl2 (g_String_isLatin1 σ a0) fun r8 σ7 => ite2 (r8 = 0) (none) (cl2 (g_StringLatin1_charAt σ7 a0 x1) fun r11 σ10 => grd ((r11.toUInt32 % 65536).toInt32 = r11) <| some (r11, σ10))
theorem c_String_charAt (G : ns_G) (l : Launch) (σ : ns_St) (a0 : Nat) (x1 : Int32) {r : Int32} {σ' : ns_St} (hf : g_String_charAt σ a0 x1 = some (r, σ')) : ns_ok G l ⟨"java/lang/String", "charAt", "(I)C"⟩ prog_15_method_56_code 2 (some .char) 3 64 0 0 [.ref (ns_sK G a0), .int x1] ns_N σ (some (.int r)) ns_N σ' := by
  refine v_openF (by decide +kernel) (Nat.le_of_ble_eq_true rfl) rfl ?_
  intro p e s m below meth c C hr _
  have C : ns_Cx G p s m _ meth c prog_15_method_56_code "java/lang/String" 2 := C
  unfold g_String_charAt at hf
  obtain ⟨hk_a0, hf⟩ := grd_e hf
  refine v_aload_n C 0 0 rfl 1 rfl (by decide +kernel) ?_
  obtain ⟨r8, σ7, hcr8, hf⟩ := cl2_e hf
  refine v_cVT C hk_a0 [] [] (c_String_isLatin1 G l σ a0 hcr8) 492 0 tw_560 tw_557 tw_558 tw_559 tw_14 hd_String_isLatin1 rfl ⟨(Nat.le_of_ble_eq_true rfl), (Nat.le_of_ble_eq_true rfl)⟩ ⟨(Nat.le_of_ble_eq_true rfl), (Nat.le_of_ble_eq_true rfl)⟩ (Nat.le_of_ble_eq_true rfl) rfl 4 rfl (by decide +kernel) [.int r8] rfl ?_
  refine v_if_eq C 16 7 rfl (by decide +kernel) (fun h9 => ?_) (fun h9 => ?_)
  · have hf := ite2_t hf h9
    cases hf
  · have hf := ite2_f hf h9
    refine v_aload_n C 0 0 rfl 8 rfl (by decide +kernel) ?_
    refine v_getV C hk_a0 9 tw_1417 11 rfl (by decide +kernel) ?_
    refine v_iload_n C 1 1 rfl 12 rfl (by decide +kernel) ?_
    obtain ⟨r11, σ10, hcr11, hf⟩ := cl2_e hf
    refine v_cS C [.ref (ns_sV G a0), .int x1] [] (c_StringLatin1_charAt G l σ7 a0 x1 hcr11) 495 2 tw_563 tw_561 tw_562 tw_15 hd_StringLatin1_charAt rfl ⟨(Nat.le_of_ble_eq_true rfl), (Nat.le_of_ble_eq_true rfl)⟩ ⟨(Nat.le_of_ble_eq_true rfl), (Nat.le_of_ble_eq_true rfl)⟩ (Nat.le_of_ble_eq_true rfl) rfl 15 rfl (by decide +kernel) [.int r11] rfl ?_
    obtain ⟨hz12, hf⟩ := grd_e hf
    obtain ⟨rfl, rfl⟩ := ret_e hf
    exact v_nret C hr (ns_c16 hz12) (by decide +kernel)
theorem hd_String_charAt : (⟨"java/lang/String", "charAt", "(I)C"⟩ : MethodName).cls = "java/lang/String" ∧ (⟨"java/lang/String", "charAt", "(I)C"⟩ : MethodName).cls ≠ "java/lang/invoke/MethodHandle" ∧ (⟨"java/lang/String", "charAt", "(I)C"⟩ : MethodName).cls ≠ "java/lang/invoke/VarHandle" ∧ (parseMethodDescriptor (⟨"java/lang/String", "charAt", "(I)C"⟩ : MethodName).desc).map (fun d => d.parameters.length) = some 1 := by decide +kernel
def g_N_isWithin (σ : ns_St) (x0 : Int32) (x1 : Int32) (x2 : Int32) : Option (Int32 × ns_St) := ite2 (x0 < x1) (some ((0 : Int32), σ)) (ite2 (x2 < x0) (some ((0 : Int32), σ)) (some ((1 : Int32), σ)))
theorem c_N_isWithin (G : ns_G) (l : Launch) (σ : ns_St) (x0 : Int32) (x1 : Int32) (x2 : Int32) {r : Int32} {σ' : ns_St} (hf : g_N_isWithin σ x0 x1 x2 = some (r, σ')) : ns_ok G l ⟨"NinthStep", "isWithin", "(III)Z"⟩ prog_1_method_67_code 3 (some .boolean) 0 0 0 0 [.int x0, .int x1, .int x2] ns_N σ (some (.int r)) ns_N σ' := by
  refine v_open (by decide) (Nat.le_of_ble_eq_true rfl) rfl ?_
  intro p e s m below meth c C hr _
  have C : ns_Cx G p s m _ meth c prog_1_method_67_code "NinthStep" 3 := C
  unfold g_N_isWithin at hf
  refine v_iload_n C 0 0 rfl 1 rfl (by decide +kernel) ?_
  refine v_iload_n C 1 1 rfl 2 rfl (by decide +kernel) ?_
  refine v_icmp_lt C 14 5 rfl (by decide +kernel) (fun h3 => ?_) (fun h3 => ?_)
  · have hf := ite2_t hf h3
    refine v_iconst C (0) (0) (by decide) 15 rfl (by decide +kernel) ?_
    obtain ⟨rfl, rfl⟩ := ret_e hf
    exact v_zret C hr rfl (by decide +kernel)
  · have hf := ite2_f hf h3
    refine v_iload_n C 0 0 rfl 6 rfl (by decide +kernel) ?_
    refine v_iload_n C 2 2 rfl 7 rfl (by decide +kernel) ?_
    refine v_icmp_gt C 14 10 rfl (by decide +kernel) (fun h4 => ?_) (fun h4 => ?_)
    · have hf := ite2_t hf h4
      refine v_iconst C (0) (0) (by decide) 15 rfl (by decide +kernel) ?_
      obtain ⟨rfl, rfl⟩ := ret_e hf
      exact v_zret C hr rfl (by decide +kernel)
    · have hf := ite2_f hf h4
      refine v_iconst C (1) (1) (by decide) 11 rfl (by decide +kernel) ?_
      refine v_goto C 15 (by decide +kernel) ?_
      obtain ⟨rfl, rfl⟩ := ret_e hf
      exact v_zret C hr rfl (by decide +kernel)
theorem hd_N_isWithin : (⟨"NinthStep", "isWithin", "(III)Z"⟩ : MethodName).cls ≠ "java/lang/invoke/MethodHandle" ∧ (⟨"NinthStep", "isWithin", "(III)Z"⟩ : MethodName).cls ≠ "java/lang/invoke/VarHandle" ∧ (parseMethodDescriptor (⟨"NinthStep", "isWithin", "(III)Z"⟩ : MethodName).desc).map (fun d => d.parameters.length) = some 3 := by decide +kernel
def g_N_shelfAt (σ : ns_St) (a0 : Nat) (x1 : Int32) : Option (Option Nat × ns_St) := grd (ns_kd a0 = 8) <| cl2 (g_N_isWithin σ x1 (0 : Int32) (7 : Int32)) fun r8 σ7 => ite2 (r8 = 0) (some (none, σ7)) (drf (σ7.2.2 a0 3) fun b10 => grd (ns_kd b10 = 13) <| grd (ns_in x1 (ns_ln b10)) <| drf (σ7.2.2 b10 (ns_ix x1)) fun b12 => grd (ns_kd b12 = 3) <| some ((some b12), σ7))
theorem c_N_shelfAt (G : ns_G) (l : Launch) (σ : ns_St) (a0 : Nat) (x1 : Int32) {r : Option Nat} {σ' : ns_St} (hf : g_N_shelfAt σ a0 x1 = some (r, σ')) : ns_ok G l ⟨"NinthStep", "shelfAt", "(I)LNinthStep$Shelf;"⟩ prog_1_method_48_code 2 (some (.object "NinthStep$Shelf")) 1 22 0 0 [.ref (G.1 + a0), .int x1] ns_N σ (some (va_rf (ns_rf G.1 r))) ns_N σ' := by
  refine v_open (by decide) (Nat.le_of_ble_eq_true rfl) rfl ?_
  intro p e s m below meth c C hr _
  have C : ns_Cx G p s m _ meth c prog_1_method_48_code "NinthStep" 2 := C
  unfold g_N_shelfAt at hf
  obtain ⟨hk_a0, hf⟩ := grd_e hf
  refine v_iload_n C 1 1 rfl 1 rfl (by decide +kernel) ?_
  refine v_iconst C (0) (0) (by decide) 2 rfl (by decide +kernel) ?_
  refine v_bipush C (7) (7) (by decide) 4 rfl (by decide +kernel) ?_
  obtain ⟨r8, σ7, hcr8, hf⟩ := cl2_e hf
  refine v_cS C [.int x1, .int (0 : Int32), .int (7 : Int32)] [] (c_N_isWithin G l σ x1 (0 : Int32) (7 : Int32) hcr8) 75 3 tw_334 tw_332 tw_333 tw_1 hd_N_isWithin rfl ⟨(Nat.le_of_ble_eq_true rfl), (Nat.le_of_ble_eq_true rfl)⟩ ⟨(Nat.le_of_ble_eq_true rfl), (Nat.le_of_ble_eq_true rfl)⟩ (Nat.le_of_ble_eq_true rfl) rfl 7 rfl (by decide +kernel) [.int r8] rfl ?_
  refine v_if_eq C 19 10 rfl (by decide +kernel) (fun h9 => ?_) (fun h9 => ?_)
  · have hf := ite2_t hf h9
    refine v_null C 20 rfl (by decide +kernel) ?_
    obtain ⟨rfl, rfl⟩ := ret_e hf
    exact v_aret C hr (x := none) (by decide +kernel)
  · have hf := ite2_f hf h9
    refine v_aload_n C 0 0 rfl 11 rfl (by decide +kernel) ?_
    obtain ⟨b10, hb10, hf⟩ := drf_e hf
    obtain ⟨hk_b10, hf⟩ := grd_e hf
    refine v_getR C 8 3 hb10 rfl nin_8 (ns_kd_lt hk_a0 (by decide)) hk_a0 (by decide) (by decide) rfl 24 tw_290 rfl 14 rfl (by decide +kernel) ?_
    refine v_iload_n C 1 1 rfl 15 rfl (by decide +kernel) ?_
    obtain ⟨hi11, hf⟩ := grd_e hf
    obtain ⟨b12, hb12, hf⟩ := drf_e hf
    obtain ⟨hk_b12, hf⟩ := grd_e hf
    refine v_aald C 13 (by decide) (ns_kd_lt hk_b10 (by decide)) hk_b10 hi11 hb12 16 rfl (by decide +kernel) ?_
    refine v_goto C 20 (by decide +kernel) ?_
    obtain ⟨rfl, rfl⟩ := ret_e hf
    exact v_aret C hr (x := (some b12)) (by decide +kernel)
theorem hd_N_shelfAt : (⟨"NinthStep", "shelfAt", "(I)LNinthStep$Shelf;"⟩ : MethodName).cls = "NinthStep" ∧ (⟨"NinthStep", "shelfAt", "(I)LNinthStep$Shelf;"⟩ : MethodName).cls ≠ "java/lang/invoke/MethodHandle" ∧ (⟨"NinthStep", "shelfAt", "(I)LNinthStep$Shelf;"⟩ : MethodName).cls ≠ "java/lang/invoke/VarHandle" ∧ (parseMethodDescriptor (⟨"NinthStep", "shelfAt", "(I)LNinthStep$Shelf;"⟩ : MethodName).desc).map (fun d => d.parameters.length) = some 1 := by decide +kernel
def g_N_refuse (σ : ns_St) (a0 : Nat) (x1 : Int32) : Option (Int32 × ns_St) := grd (ns_kd a0 = 8) <| bnd ((-2 : Int32) - x1) fun z9 => cl2 (g_N_isWithin σ z9 (0 : Int32) (4 : Int32)) fun r11 σ10 => ite2 (r11 = 0) (some (x1, σ10)) (drf (σ10.2.2 a0 10) fun b13 => grd (ns_kd b13 = 10) <| grd (ns_in z9 (ns_ln b13)) <| grd (ns_in z9 (ns_ln b13)) <| bnd (ns_pI σ10 b13 (ns_ix z9) ((σ10.1 b13 (ns_ix z9)) + (1 : Int32))) fun σ16 => some (x1, σ16))
theorem c_N_refuse (G : ns_G) (l : Launch) (σ : ns_St) (a0 : Nat) (x1 : Int32) {r : Int32} {σ' : ns_St} (hf : g_N_refuse σ a0 x1 = some (r, σ')) : ns_ok G l ⟨"NinthStep", "refuse", "(I)I"⟩ prog_1_method_47_code 3 (some .int) 1 22 0 0 [.ref (G.1 + a0), .int x1] ns_N σ (some (.int r)) ns_N σ' := by
  refine v_open (by decide) (Nat.le_of_ble_eq_true rfl) rfl ?_
  intro p e s m below meth c C hr _
  have C : ns_Cx G p s m _ meth c prog_1_method_47_code "NinthStep" 3 := C
  unfold g_N_refuse at hf
  obtain ⟨hk_a0, hf⟩ := grd_e hf
  refine v_bipush C (-2) (-2) (by decide) 2 rfl (by decide +kernel) ?_
  refine v_iload_n C 1 1 rfl 3 rfl (by decide +kernel) ?_
  refine v_isub C 4 rfl (by decide +kernel) ?_
  obtain ⟨z9, hz9, hf⟩ := bnd_e hf
  refine v_nmI hz9 ?_
  refine v_istore_n C 2 [(2, .int z9), (0, .ref (G.1 + a0)), (1, .int x1)] (by decide) rfl 5 rfl (by decide +kernel) ?_
  refine v_iload_n C 2 0 rfl 6 rfl (by decide +kernel) ?_
  refine v_iconst C (0) (0) (by decide) 7 rfl (by decide +kernel) ?_
  refine v_iconst C (4) (4) (by decide) 8 rfl (by decide +kernel) ?_
  obtain ⟨r11, σ10, hcr11, hf⟩ := cl2_e hf
  refine v_cS C [.int z9, .int (0 : Int32), .int (4 : Int32)] [] (c_N_isWithin G l σ z9 (0 : Int32) (4 : Int32) hcr11) 75 3 tw_334 tw_332 tw_333 tw_1 hd_N_isWithin rfl ⟨(Nat.le_of_ble_eq_true rfl), (Nat.le_of_ble_eq_true rfl)⟩ ⟨(Nat.le_of_ble_eq_true rfl), (Nat.le_of_ble_eq_true rfl)⟩ (Nat.le_of_ble_eq_true rfl) rfl 11 rfl (by decide +kernel) [.int r11] rfl ?_
  refine v_if_eq C 24 14 rfl (by decide +kernel) (fun h12 => ?_) (fun h12 => ?_)
  · have hf := ite2_t hf h12
    refine v_iload_n C 1 2 rfl 25 rfl (by decide +kernel) ?_
    obtain ⟨rfl, rfl⟩ := ret_e hf
    exact v_iret C hr (by decide +kernel)
  · have hf := ite2_f hf h12
    refine v_aload_n C 0 1 rfl 15 rfl (by decide +kernel) ?_
    obtain ⟨b13, hb13, hf⟩ := drf_e hf
    obtain ⟨hk_b13, hf⟩ := grd_e hf
    refine v_getR C 8 10 hb13 rfl nin_8 (ns_kd_lt hk_a0 (by decide)) hk_a0 (by decide) (by decide) rfl 67 tw_297 rfl 18 rfl (by decide +kernel) ?_
    refine v_iload_n C 2 0 rfl 19 rfl (by decide +kernel) ?_
    refine v_dup2_11 C rfl rfl 20 rfl (by decide +kernel) ?_
    obtain ⟨hi14, hf⟩ := grd_e hf
    refine v_iald C (ns_kd_lt hk_b13 (by decide)) hk_b13 hi14 21 rfl (by decide +kernel) ?_
    refine v_iconst C (1) (1) (by decide) 22 rfl (by decide +kernel) ?_
    refine v_iadd C 23 rfl (by decide +kernel) ?_
    obtain ⟨hi15, hf⟩ := grd_e hf
    obtain ⟨σ16, hσ16, hf⟩ := bnd_e hf
    refine v_iast C hσ16 (ns_kd_lt hk_b13 (by decide)) hk_b13 hi15 24 rfl (by decide +kernel) ?_
    refine v_iload_n C 1 2 rfl 25 rfl (by decide +kernel) ?_
    obtain ⟨rfl, rfl⟩ := ret_e hf
    exact v_iret C hr (by decide +kernel)
theorem hd_N_refuse : (⟨"NinthStep", "refuse", "(I)I"⟩ : MethodName).cls = "NinthStep" ∧ (⟨"NinthStep", "refuse", "(I)I"⟩ : MethodName).cls ≠ "java/lang/invoke/MethodHandle" ∧ (⟨"NinthStep", "refuse", "(I)I"⟩ : MethodName).cls ≠ "java/lang/invoke/VarHandle" ∧ (parseMethodDescriptor (⟨"NinthStep", "refuse", "(I)I"⟩ : MethodName).desc).map (fun d => d.parameters.length) = some 1 := by decide +kernel
def g_Shelf_holdRow_12  : Nat → ns_St → Nat → Int32 → Option (Unit × ns_St)
  | 0, _, _, _ => none
  | f + 1, σ, a0, x3 => ite2 ((40 : Int32) ≤ x3) (some ((), σ)) (drf (σ.2.2 a0 2) fun b9 => grd (ns_kd b9 = 11) <| grd (ns_in x3 (ns_ln b9)) <| bnd (ns_pJ σ b9 (ns_ix x3) (0 : Int64)) fun σ11 => bnd (x3 + 1) fun z12 => (g_Shelf_holdRow_12 f) σ11 a0 z12)
def g_Shelf_holdRow (σ : ns_St) (a0 : Nat) (x1 : Int32) (x2 : Int32) : Option (Unit × ns_St) := grd (ns_kd a0 = 3) <| bnd (ns_pI σ a0 0 x1) fun σ13 => bnd (ns_pI σ13 a0 1 x2) fun σ14 => g_Shelf_holdRow_12 ns_F σ14 a0 (0 : Int32)
theorem t_Shelf_holdRow_12 (G : ns_G) (l : Launch) {p : Program} {e : Env} {s : State} {m : MethodId} {args : Array Value} {below : List Frame} {meth : Method} {c : Code} (C : ns_Cx G p s m args meth c prog_5_method_2_code "NinthStep$Shelf" 4) (hr : meth.sig.returnType = none) {r : Unit} {σ' : ns_St}  : ∀ (f : Nat) (σ : ns_St) (a0 : Nat) (x3 : Int32) (hk_a0 : ns_kd a0 = 3), g_Shelf_holdRow_12 f σ a0 x3 = some (r, σ') → VV G p l e { frames := 0, cells := 0, slots := 0, locals := 0 } s m args below meth c 4 0 0 (MQ below (ns_Qc G none ns_N σ') args s 0 0 (ns_A G)) ns_N σ 12 [(0, .ref (G.1 + a0)), (3, .int x3)] [] := by
  intro f
  induction f with
  | zero =>
    intro σ a0 x3 hk_a0 hf
    cases hf
  | succ f ih =>
    intro σ a0 x3 hk_a0 hf
    rw [g_Shelf_holdRow_12] at hf
    refine v_iload_n C 3 1 rfl 13 rfl (by decide +kernel) ?_
    refine v_bipush C (40) (40) (by decide) 15 rfl (by decide +kernel) ?_
    refine v_icmp_ge C 31 18 rfl (by decide +kernel) (fun h8 => ?_) (fun h8 => ?_)
    · have hf := ite2_t hf h8
      obtain ⟨rfl, rfl⟩ := ret_e hf
      exact v_vret C hr (by decide +kernel)
    · have hf := ite2_f hf h8
      refine v_aload_n C 0 0 rfl 19 rfl (by decide +kernel) ?_
      obtain ⟨b9, hb9, hf⟩ := drf_e hf
      obtain ⟨hk_b9, hf⟩ := grd_e hf
      refine v_getR C 3 2 hb9 rfl nin_3 (ns_kd_lt hk_a0 (by decide)) hk_a0 (by decide) (by decide) rfl 15 tw_278 rfl 22 rfl (by decide +kernel) ?_
      refine v_iload_n C 3 1 rfl 23 rfl (by decide +kernel) ?_
      refine v_lconst C 0 (0) (by decide) 24 rfl (by decide +kernel) ?_
      obtain ⟨hi10, hf⟩ := grd_e hf
      obtain ⟨σ11, hσ11, hf⟩ := bnd_e hf
      refine v_last C hσ11 (ns_kd_lt hk_b9 (by decide)) hk_b9 hi10 25 rfl (by decide +kernel) ?_
      obtain ⟨z12, hz12, hf⟩ := bnd_e hf
      refine v_iinc C 3 (1) 1 z12 rfl (by rw [hz12]; rfl) [(3, .int z12), (0, .ref (G.1 + a0))] (by decide) rfl 28 rfl (by decide +kernel) ?_
      refine v_goto C 12 (by decide +kernel) ?_
      refine v_sub [1, 0] rfl ?_
      exact ih σ11 a0 z12 hk_a0 hf
theorem c_Shelf_holdRow (G : ns_G) (l : Launch) (σ : ns_St) (a0 : Nat) (x1 : Int32) (x2 : Int32) {r : Unit} {σ' : ns_St} (hf : g_Shelf_holdRow σ a0 x1 x2 = some (r, σ')) : ns_ok G l ⟨"NinthStep$Shelf", "holdRow", "(II)V"⟩ prog_5_method_2_code 4 none 0 0 0 0 [.ref (G.1 + a0), .int x1, .int x2] ns_N σ none ns_N σ' := by
  refine v_open (by decide) (Nat.le_of_ble_eq_true rfl) rfl ?_
  intro p e s m below meth c C hr _
  have C : ns_Cx G p s m _ meth c prog_5_method_2_code "NinthStep$Shelf" 4 := C
  unfold g_Shelf_holdRow at hf
  obtain ⟨hk_a0, hf⟩ := grd_e hf
  refine v_aload_n C 0 0 rfl 1 rfl (by decide +kernel) ?_
  refine v_iload_n C 1 1 rfl 2 rfl (by decide +kernel) ?_
  obtain ⟨σ13, hσ13, hf⟩ := bnd_e hf
  refine v_putI C 3 0 hσ13 rfl nin_3 ny_3 nty_3 nnm_3 (ns_kd_lt hk_a0 (by decide)) hk_a0 (by decide) (by decide) rfl rfl rfl rfl 9 tw_274 rfl 5 rfl (by decide +kernel) ?_
  refine v_aload_n C 0 0 rfl 6 rfl (by decide +kernel) ?_
  refine v_iload_n C 2 2 rfl 7 rfl (by decide +kernel) ?_
  obtain ⟨σ14, hσ14, hf⟩ := bnd_e hf
  refine v_putI C 3 1 hσ14 rfl nin_3 ny_3 nty_3 nnm_3 (ns_kd_lt hk_a0 (by decide)) hk_a0 (by decide) (by decide) rfl rfl rfl rfl 19 tw_276 rfl 10 rfl (by decide +kernel) ?_
  refine v_iconst C (0) (0) (by decide) 11 rfl (by decide +kernel) ?_
  refine v_istore_n C 3 [(3, .int (0 : Int32)), (0, .ref (G.1 + a0)), (1, .int x1), (2, .int x2)] (by decide) rfl 12 rfl (by decide +kernel) ?_
  refine v_sub [1, 0] rfl ?_
  exact t_Shelf_holdRow_12 G l C hr  ns_F σ14 a0 (0 : Int32) hk_a0 hf
theorem hd_Shelf_holdRow : (⟨"NinthStep$Shelf", "holdRow", "(II)V"⟩ : MethodName).cls = "NinthStep$Shelf" ∧ (⟨"NinthStep$Shelf", "holdRow", "(II)V"⟩ : MethodName).cls ≠ "java/lang/invoke/MethodHandle" ∧ (⟨"NinthStep$Shelf", "holdRow", "(II)V"⟩ : MethodName).cls ≠ "java/lang/invoke/VarHandle" ∧ (parseMethodDescriptor (⟨"NinthStep$Shelf", "holdRow", "(II)V"⟩ : MethodName).desc).map (fun d => d.parameters.length) = some 2 := by decide +kernel
def g_N_row (σ : ns_St) (a0 : Nat) (x1 : Int32) (x2 : Int32) (x3 : Int32) : Option (Int32 × ns_St) := grd (ns_kd a0 = 8) <| cl2 (g_N_shelfAt σ a0 x1) fun r19 σ18 => onul r19 (cl2 (g_N_refuse σ18 a0 (-2 : Int32)) fun r22 σ21 => some (r22, σ21)) (fun b20 => grd (ns_kd b20 = 3) <| cl2 (g_N_isWithin σ18 x2 (0 : Int32) (4 : Int32)) fun r24 σ23 => ite2 (r24 = 0) (cl2 (g_N_refuse σ23 a0 (-2 : Int32)) fun r27 σ26 => some (r27, σ26)) (cl2 (g_N_isWithin σ23 x3 (0 : Int32) (40 : Int32)) fun r29 σ28 => ite2 (r29 = 0) (cl2 (g_N_refuse σ28 a0 (-2 : Int32)) fun r34 σ33 => some (r34, σ33)) (cl2 (g_Shelf_holdRow σ28 b20 x2 x3) fun r32 σ31 => some ((1 : Int32), σ31))))
theorem c_N_row (G : ns_G) (l : Launch) (σ : ns_St) (a0 : Nat) (x1 : Int32) (x2 : Int32) (x3 : Int32) {r : Int32} {σ' : ns_St} (hf : g_N_row σ a0 x1 x2 x3 = some (r, σ')) : ns_ok G l ⟨"NinthStep", "row", "(III)I"⟩ prog_1_method_2_code 5 (some .int) 2 44 0 0 [.ref (G.1 + a0), .int x1, .int x2, .int x3] ns_N σ (some (.int r)) ns_N σ' := by
  refine v_open (by decide) (Nat.le_of_ble_eq_true rfl) rfl ?_
  intro p e s m below meth c C hr _
  have C : ns_Cx G p s m _ meth c prog_1_method_2_code "NinthStep" 5 := C
  unfold g_N_row at hf
  obtain ⟨hk_a0, hf⟩ := grd_e hf
  refine v_aload_n C 0 0 rfl 1 rfl (by decide +kernel) ?_
  refine v_iload_n C 1 1 rfl 2 rfl (by decide +kernel) ?_
  obtain ⟨r19, σ18, hcr19, hf⟩ := cl2_e hf
  rcases r19 with _ | b20
  · have hf := onul_n hf
    refine v_cV C 8 rfl (ns_kd_lt hk_a0 (by decide)) hk_a0 (by decide) [.int x1] [] (c_N_shelfAt G l σ a0 x1 hcr19) 71 1 tw_331 tw_328 tw_330 ts_0 tw_1 hd_N_shelfAt rfl ⟨(Nat.le_of_ble_eq_true rfl), (Nat.le_of_ble_eq_true rfl)⟩ ⟨(Nat.le_of_ble_eq_true rfl), (Nat.le_of_ble_eq_true rfl)⟩ (Nat.le_of_ble_eq_true rfl) rfl 5 rfl (by decide +kernel) [.null] rfl ?_
    refine v_astoreN C 4 [(4, .null), (0, .ref (G.1 + a0)), (1, .int x1), (2, .int x2), (3, .int x3)] (by decide) rfl 7 rfl (by decide +kernel) ?_
    refine v_aloadN C 4 0 rfl 9 rfl (by decide +kernel) ?_
    refine v_ifnullN C 31 (by decide +kernel) ?_
    refine v_aload_n C 0 1 rfl 32 rfl (by decide +kernel) ?_
    refine v_bipush C (-2) (-2) (by decide) 34 rfl (by decide +kernel) ?_
    obtain ⟨r22, σ21, hcr22, hf⟩ := cl2_e hf
    refine v_cV C 8 rfl (ns_kd_lt hk_a0 (by decide)) hk_a0 (by decide) [.int (-2 : Int32)] [] (c_N_refuse G l σ18 a0 (-2 : Int32) hcr22) 79 1 tw_338 tw_335 tw_337 ts_1 tw_1 hd_N_refuse rfl ⟨(Nat.le_of_ble_eq_true rfl), (Nat.le_of_ble_eq_true rfl)⟩ ⟨(Nat.le_of_ble_eq_true rfl), (Nat.le_of_ble_eq_true rfl)⟩ (Nat.le_of_ble_eq_true rfl) rfl 37 rfl (by decide +kernel) [.int r22] rfl ?_
    obtain ⟨rfl, rfl⟩ := ret_e hf
    exact v_iret C hr (by decide +kernel)
  · have hf := onul_s hf
    obtain ⟨hk_b20, hf⟩ := grd_e hf
    refine v_cV C 8 rfl (ns_kd_lt hk_a0 (by decide)) hk_a0 (by decide) [.int x1] [] (c_N_shelfAt G l σ a0 x1 hcr19) 71 1 tw_331 tw_328 tw_330 ts_0 tw_1 hd_N_shelfAt rfl ⟨(Nat.le_of_ble_eq_true rfl), (Nat.le_of_ble_eq_true rfl)⟩ ⟨(Nat.le_of_ble_eq_true rfl), (Nat.le_of_ble_eq_true rfl)⟩ (Nat.le_of_ble_eq_true rfl) rfl 5 rfl (by decide +kernel) [.ref (G.1 + b20)] rfl ?_
    refine v_astore C 4 [(4, .ref (G.1 + b20)), (0, .ref (G.1 + a0)), (1, .int x1), (2, .int x2), (3, .int x3)] (by decide) rfl 7 rfl (by decide +kernel) ?_
    refine v_aload C 4 0 rfl 9 rfl (by decide +kernel) ?_
    refine v_ifnull C 31 12 rfl (by decide +kernel) ?_
    refine v_iload_n C 2 3 rfl 13 rfl (by decide +kernel) ?_
    refine v_iconst C (0) (0) (by decide) 14 rfl (by decide +kernel) ?_
    refine v_iconst C (4) (4) (by decide) 15 rfl (by decide +kernel) ?_
    obtain ⟨r24, σ23, hcr24, hf⟩ := cl2_e hf
    refine v_cS C [.int x2, .int (0 : Int32), .int (4 : Int32)] [] (c_N_isWithin G l σ18 x2 (0 : Int32) (4 : Int32) hcr24) 75 3 tw_334 tw_332 tw_333 tw_1 hd_N_isWithin rfl ⟨(Nat.le_of_ble_eq_true rfl), (Nat.le_of_ble_eq_true rfl)⟩ ⟨(Nat.le_of_ble_eq_true rfl), (Nat.le_of_ble_eq_true rfl)⟩ (Nat.le_of_ble_eq_true rfl) rfl 18 rfl (by decide +kernel) [.int r24] rfl ?_
    refine v_if_eq C 31 21 rfl (by decide +kernel) (fun h25 => ?_) (fun h25 => ?_)
    · have hf := ite2_t hf h25
      refine v_aload_n C 0 1 rfl 32 rfl (by decide +kernel) ?_
      refine v_bipush C (-2) (-2) (by decide) 34 rfl (by decide +kernel) ?_
      obtain ⟨r27, σ26, hcr27, hf⟩ := cl2_e hf
      refine v_cV C 8 rfl (ns_kd_lt hk_a0 (by decide)) hk_a0 (by decide) [.int (-2 : Int32)] [] (c_N_refuse G l σ23 a0 (-2 : Int32) hcr27) 79 1 tw_338 tw_335 tw_337 ts_1 tw_1 hd_N_refuse rfl ⟨(Nat.le_of_ble_eq_true rfl), (Nat.le_of_ble_eq_true rfl)⟩ ⟨(Nat.le_of_ble_eq_true rfl), (Nat.le_of_ble_eq_true rfl)⟩ (Nat.le_of_ble_eq_true rfl) rfl 37 rfl (by decide +kernel) [.int r27] rfl ?_
      obtain ⟨rfl, rfl⟩ := ret_e hf
      exact v_iret C hr (by decide +kernel)
    · have hf := ite2_f hf h25
      refine v_iload_n C 3 4 rfl 22 rfl (by decide +kernel) ?_
      refine v_iconst C (0) (0) (by decide) 23 rfl (by decide +kernel) ?_
      refine v_bipush C (40) (40) (by decide) 25 rfl (by decide +kernel) ?_
      obtain ⟨r29, σ28, hcr29, hf⟩ := cl2_e hf
      refine v_cS C [.int x3, .int (0 : Int32), .int (40 : Int32)] [] (c_N_isWithin G l σ23 x3 (0 : Int32) (40 : Int32) hcr29) 75 3 tw_334 tw_332 tw_333 tw_1 hd_N_isWithin rfl ⟨(Nat.le_of_ble_eq_true rfl), (Nat.le_of_ble_eq_true rfl)⟩ ⟨(Nat.le_of_ble_eq_true rfl), (Nat.le_of_ble_eq_true rfl)⟩ (Nat.le_of_ble_eq_true rfl) rfl 28 rfl (by decide +kernel) [.int r29] rfl ?_
      refine v_if_ne C 38 31 rfl (by decide +kernel) (fun h30 => ?_) (fun h30 => ?_)
      · have hf := ite2_f hf h30
        refine v_aload C 4 0 rfl 40 rfl (by decide +kernel) ?_
        refine v_iload_n C 2 3 rfl 41 rfl (by decide +kernel) ?_
        refine v_iload_n C 3 4 rfl 42 rfl (by decide +kernel) ?_
        obtain ⟨r32, σ31, hcr32, hf⟩ := cl2_e hf
        refine v_cVN C 3 rfl (ns_kd_lt hk_b20 (by decide)) hk_b20 (by decide) [.int x2, .int x3] [] (c_Shelf_holdRow G l σ28 b20 x2 x3 hcr32) 83 2 tw_342 tw_339 tw_341 ts_2 tw_9 hd_Shelf_holdRow rfl ⟨(Nat.le_of_ble_eq_true rfl), (Nat.le_of_ble_eq_true rfl)⟩ ⟨(Nat.le_of_ble_eq_true rfl), (Nat.le_of_ble_eq_true rfl)⟩ (Nat.le_of_ble_eq_true rfl) rfl 45 rfl (by decide +kernel) [] rfl ?_
        refine v_iconst C (1) (1) (by decide) 46 rfl (by decide +kernel) ?_
        obtain ⟨rfl, rfl⟩ := ret_e hf
        exact v_iret C hr (by decide +kernel)
      · have hf := ite2_t hf h30
        refine v_aload_n C 0 1 rfl 32 rfl (by decide +kernel) ?_
        refine v_bipush C (-2) (-2) (by decide) 34 rfl (by decide +kernel) ?_
        obtain ⟨r34, σ33, hcr34, hf⟩ := cl2_e hf
        refine v_cV C 8 rfl (ns_kd_lt hk_a0 (by decide)) hk_a0 (by decide) [.int (-2 : Int32)] [] (c_N_refuse G l σ28 a0 (-2 : Int32) hcr34) 79 1 tw_338 tw_335 tw_337 ts_1 tw_1 hd_N_refuse rfl ⟨(Nat.le_of_ble_eq_true rfl), (Nat.le_of_ble_eq_true rfl)⟩ ⟨(Nat.le_of_ble_eq_true rfl), (Nat.le_of_ble_eq_true rfl)⟩ (Nat.le_of_ble_eq_true rfl) rfl 37 rfl (by decide +kernel) [.int r34] rfl ?_
        obtain ⟨rfl, rfl⟩ := ret_e hf
        exact v_iret C hr (by decide +kernel)
theorem hd_N_row : (⟨"NinthStep", "row", "(III)I"⟩ : MethodName).cls = "NinthStep" ∧ (⟨"NinthStep", "row", "(III)I"⟩ : MethodName).cls ≠ "java/lang/invoke/MethodHandle" ∧ (⟨"NinthStep", "row", "(III)I"⟩ : MethodName).cls ≠ "java/lang/invoke/VarHandle" ∧ (parseMethodDescriptor (⟨"NinthStep", "row", "(III)I"⟩ : MethodName).desc).map (fun d => d.parameters.length) = some 3 := by decide +kernel
def g_Shelf_troubleAsRow (σ : ns_St) (a0 : Nat) : Option (Int32 × ns_St) := grd (ns_kd a0 = 3) <| ite2 ((σ.1 a0 0) = (-1 : Int32)) (some ((-4 : Int32), σ)) (ite2 ((σ.1 a0 0) < (10 : Int32)) (some ((0 : Int32), σ)) (some ((-3 : Int32), σ)))
theorem c_Shelf_troubleAsRow (G : ns_G) (l : Launch) (σ : ns_St) (a0 : Nat) {r : Int32} {σ' : ns_St} (hf : g_Shelf_troubleAsRow σ a0 = some (r, σ')) : ns_ok G l ⟨"NinthStep$Shelf", "troubleAsRow", "()I"⟩ prog_5_method_3_code 1 (some .int) 0 0 0 0 [.ref (G.1 + a0)] ns_N σ (some (.int r)) ns_N σ' := by
  refine v_open (by decide) (Nat.le_of_ble_eq_true rfl) rfl ?_
  intro p e s m below meth c C hr _
  have C : ns_Cx G p s m _ meth c prog_5_method_3_code "NinthStep$Shelf" 1 := C
  unfold g_Shelf_troubleAsRow at hf
  obtain ⟨hk_a0, hf⟩ := grd_e hf
  refine v_aload_n C 0 0 rfl 1 rfl (by decide +kernel) ?_
  refine v_getI C 3 0 rfl nin_3 (ns_kd_lt hk_a0 (by decide)) hk_a0 (by decide) (by decide) rfl 9 tw_274 rfl 4 rfl (by decide +kernel) ?_
  refine v_iconst C (-1) (-1) (by decide) 5 rfl (by decide +kernel) ?_
  refine v_icmp_ne C 11 8 rfl (by decide +kernel) (fun h3 => ?_) (fun h3 => ?_)
  · have hf := ite2_f hf h3
    refine v_aload_n C 0 0 rfl 12 rfl (by decide +kernel) ?_
    refine v_getI C 3 0 rfl nin_3 (ns_kd_lt hk_a0 (by decide)) hk_a0 (by decide) (by decide) rfl 9 tw_274 rfl 15 rfl (by decide +kernel) ?_
    refine v_bipush C (10) (10) (by decide) 17 rfl (by decide +kernel) ?_
    refine v_icmp_lt C 25 20 rfl (by decide +kernel) (fun h4 => ?_) (fun h4 => ?_)
    · have hf := ite2_t hf h4
      refine v_iconst C (0) (0) (by decide) 26 rfl (by decide +kernel) ?_
      obtain ⟨rfl, rfl⟩ := ret_e hf
      exact v_iret C hr (by decide +kernel)
    · have hf := ite2_f hf h4
      refine v_bipush C (-3) (-3) (by decide) 22 rfl (by decide +kernel) ?_
      refine v_goto C 26 (by decide +kernel) ?_
      obtain ⟨rfl, rfl⟩ := ret_e hf
      exact v_iret C hr (by decide +kernel)
  · have hf := ite2_t hf h3
    refine v_bipush C (-4) (-4) (by decide) 10 rfl (by decide +kernel) ?_
    obtain ⟨rfl, rfl⟩ := ret_e hf
    exact v_iret C hr (by decide +kernel)
theorem hd_Shelf_troubleAsRow : (⟨"NinthStep$Shelf", "troubleAsRow", "()I"⟩ : MethodName).cls = "NinthStep$Shelf" ∧ (⟨"NinthStep$Shelf", "troubleAsRow", "()I"⟩ : MethodName).cls ≠ "java/lang/invoke/MethodHandle" ∧ (⟨"NinthStep$Shelf", "troubleAsRow", "()I"⟩ : MethodName).cls ≠ "java/lang/invoke/VarHandle" ∧ (parseMethodDescriptor (⟨"NinthStep$Shelf", "troubleAsRow", "()I"⟩ : MethodName).desc).map (fun d => d.parameters.length) = some 0 := by decide +kernel
def g_Shelf_lowestBits (σ : ns_St) (a0 : Nat) (x1 : Int64) : Option (Int64 × ns_St) := grd (ns_kd a0 = 3) <| bnd (σ.1 a0 0) fun z8 => ite2 (z8 = 0) (some ((((x1.toInt32).toInt8.toInt32).toInt64), σ)) (ite2 (z8 = 1) (some ((((x1.toInt32).toInt16.toInt32).toInt64), σ)) (ite2 (z8 = 2) (some (((x1.toInt32).toInt64), σ)) (ite2 (z8 = 3) (some (x1, σ)) (ite2 (z8 = 4) (ite2 ((lg_cmp x1 (0 : Int64)) = 0) (some ((0 : Int64), σ)) (some ((1 : Int64), σ))) (some (x1, σ))))))
theorem c_Shelf_lowestBits (G : ns_G) (l : Launch) (σ : ns_St) (a0 : Nat) (x1 : Int64) {r : Int64} {σ' : ns_St} (hf : g_Shelf_lowestBits σ a0 x1 = some (r, σ')) : ns_ok G l ⟨"NinthStep$Shelf", "lowestBits", "(J)J"⟩ prog_5_method_6_code 3 (some .long) 0 0 0 0 [.ref (G.1 + a0), .long x1] ns_N σ (some (.long r)) ns_N σ' := by
  refine v_open (by decide) (Nat.le_of_ble_eq_true rfl) rfl ?_
  intro p e s m below meth c C hr _
  have C : ns_Cx G p s m _ meth c prog_5_method_6_code "NinthStep$Shelf" 3 := C
  unfold g_Shelf_lowestBits at hf
  obtain ⟨hk_a0, hf⟩ := grd_e hf
  refine v_aload_n C 0 0 rfl 1 rfl (by decide +kernel) ?_
  refine v_getI C 3 0 rfl nin_3 (ns_kd_lt hk_a0 (by decide)) hk_a0 (by decide) (by decide) rfl 9 tw_274 rfl 4 rfl (by decide +kernel) ?_
  obtain ⟨z8, hz8, hf⟩ := bnd_e hf
  refine v_nmI hz8 ?_
  by_cases h9 : z8 = 0
  · have hf := ite2_t hf h9
    refine v_tswI C (62) (0) (4) #[(36), (41), (46), (62), (50)] 36 40 (0) h9 (by decide) (by decide) (36) (by decide) (by decide) (by decide +kernel) ?_
    refine v_lload_n C 1 1 rfl 41 rfl (by decide +kernel) ?_
    refine v_l2i C 42 rfl (by decide +kernel) ?_
    refine v_i2b C 43 rfl (by decide +kernel) ?_
    refine v_i2l C 44 rfl (by decide +kernel) ?_
    obtain ⟨rfl, rfl⟩ := ret_e hf
    exact v_lret C hr (by decide +kernel)
  · have hf := ite2_f hf h9
    by_cases h10 : z8 = 1
    · have hf := ite2_t hf h10
      refine v_tswI C (62) (0) (4) #[(36), (41), (46), (62), (50)] 36 45 (1) h10 (by decide) (by decide) (41) (by decide) (by decide) (by decide +kernel) ?_
      refine v_lload_n C 1 1 rfl 46 rfl (by decide +kernel) ?_
      refine v_l2i C 47 rfl (by decide +kernel) ?_
      refine v_i2s C 48 rfl (by decide +kernel) ?_
      refine v_i2l C 49 rfl (by decide +kernel) ?_
      obtain ⟨rfl, rfl⟩ := ret_e hf
      exact v_lret C hr (by decide +kernel)
    · have hf := ite2_f hf h10
      by_cases h11 : z8 = 2
      · have hf := ite2_t hf h11
        refine v_tswI C (62) (0) (4) #[(36), (41), (46), (62), (50)] 36 50 (2) h11 (by decide) (by decide) (46) (by decide) (by decide) (by decide +kernel) ?_
        refine v_lload_n C 1 1 rfl 51 rfl (by decide +kernel) ?_
        refine v_l2i C 52 rfl (by decide +kernel) ?_
        refine v_i2l C 53 rfl (by decide +kernel) ?_
        obtain ⟨rfl, rfl⟩ := ret_e hf
        exact v_lret C hr (by decide +kernel)
      · have hf := ite2_f hf h11
        by_cases h12 : z8 = 3
        · have hf := ite2_t hf h12
          refine v_tswI C (62) (0) (4) #[(36), (41), (46), (62), (50)] 36 66 (3) h12 (by decide) (by decide) (62) (by decide) (by decide) (by decide +kernel) ?_
          refine v_lload_n C 1 1 rfl 67 rfl (by decide +kernel) ?_
          obtain ⟨rfl, rfl⟩ := ret_e hf
          exact v_lret C hr (by decide +kernel)
        · have hf := ite2_f hf h12
          by_cases h13 : z8 = 4
          · have hf := ite2_t hf h13
            refine v_tswI C (62) (0) (4) #[(36), (41), (46), (62), (50)] 36 54 (4) h13 (by decide) (by decide) (50) (by decide) (by decide) (by decide +kernel) ?_
            refine v_lload_n C 1 1 rfl 55 rfl (by decide +kernel) ?_
            refine v_lconst C 0 (0) (by decide) 56 rfl (by decide +kernel) ?_
            refine v_lcmp C 57 rfl (by decide +kernel) ?_
            refine v_if_eq C 64 60 rfl (by decide +kernel) (fun h14 => ?_) (fun h14 => ?_)
            · have hf := ite2_t hf h14
              refine v_lconst C 0 (0) (by decide) 65 rfl (by decide +kernel) ?_
              obtain ⟨rfl, rfl⟩ := ret_e hf
              exact v_lret C hr (by decide +kernel)
            · have hf := ite2_f hf h14
              refine v_lconst C 1 (1) (by decide) 61 rfl (by decide +kernel) ?_
              refine v_goto C 65 (by decide +kernel) ?_
              obtain ⟨rfl, rfl⟩ := ret_e hf
              exact v_lret C hr (by decide +kernel)
          · have hf := ite2_f hf h13
            refine v_tswO C (62) (0) (4) #[(36), (41), (46), (62), (50)] 36 66 (ns_out z8 (0) (4) (fun k h1 h2 => by
              have h3 : k = 0 ∨ k = 1 ∨ k = 2 ∨ k = 3 ∨ k = 4 := by omega
              rcases h3 with rfl | rfl | rfl | rfl | rfl
              · exact h9
              · exact h10
              · exact h11
              · exact h12
              · exact h13)) (by decide) (by decide +kernel) ?_
            refine v_lload_n C 1 1 rfl 67 rfl (by decide +kernel) ?_
            obtain ⟨rfl, rfl⟩ := ret_e hf
            exact v_lret C hr (by decide +kernel)
theorem hd_Shelf_lowestBits : (⟨"NinthStep$Shelf", "lowestBits", "(J)J"⟩ : MethodName).cls = "NinthStep$Shelf" ∧ (⟨"NinthStep$Shelf", "lowestBits", "(J)J"⟩ : MethodName).cls ≠ "java/lang/invoke/MethodHandle" ∧ (⟨"NinthStep$Shelf", "lowestBits", "(J)J"⟩ : MethodName).cls ≠ "java/lang/invoke/VarHandle" ∧ (parseMethodDescriptor (⟨"NinthStep$Shelf", "lowestBits", "(J)J"⟩ : MethodName).desc).map (fun d => d.parameters.length) = some 1 := by decide +kernel
