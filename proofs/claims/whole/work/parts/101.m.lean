def g_Shelf_putCell (σ : ns_St) (a0 : Nat) (x1 : Int32) (x2 : Int64) : Option (Unit × ns_St) := grd (ns_kd a0 = 3) <| cl2 (g_N_isWithin σ x1 (0 : Int32) (39 : Int32)) fun r10 σ9 => ite2 (r10 = 0) (some ((), σ9)) (drf (σ9.2.2 a0 2) fun b12 => grd (ns_kd b12 = 11) <| cl2 (g_Shelf_lowestBits σ9 a0 x2) fun r14 σ13 => grd (ns_in x1 (ns_ln b12)) <| bnd (ns_pJ σ13 b12 (ns_ix x1) r14) fun σ16 => some ((), σ16))
theorem c_Shelf_putCell (G : ns_G) (l : Launch) (σ : ns_St) (a0 : Nat) (x1 : Int32) (x2 : Int64) {r : Unit} {σ' : ns_St} (hf : g_Shelf_putCell σ a0 x1 x2 = some (r, σ')) : ns_ok G l ⟨"NinthStep$Shelf", "putCell", "(IJ)V"⟩ prog_5_method_5_code 4 none 1 22 0 0 [.ref (G.1 + a0), .int x1, .long x2] ns_N σ none ns_N σ' := by
  refine v_open (by decide) (Nat.le_of_ble_eq_true rfl) rfl ?_
  intro p e s m below meth c C hr _
  have C : ns_Cx G p s m _ meth c prog_5_method_5_code "NinthStep$Shelf" 4 := C
  unfold g_Shelf_putCell at hf
  obtain ⟨hk_a0, hf⟩ := grd_e hf
  refine v_iload_n C 1 1 rfl 1 rfl (by decide +kernel) ?_
  refine v_iconst C (0) (0) (by decide) 2 rfl (by decide +kernel) ?_
  refine v_bipush C (39) (39) (by decide) 4 rfl (by decide +kernel) ?_
  obtain ⟨r10, σ9, hcr10, hf⟩ := cl2_e hf
  refine v_cSN C [.int x1, .int (0 : Int32), .int (39 : Int32)] [] (c_N_isWithin G l σ x1 (0 : Int32) (39 : Int32) hcr10) 26 3 tw_334 tw_355 tw_333 tw_1 hd_N_isWithin rfl ⟨(Nat.le_of_ble_eq_true rfl), (Nat.le_of_ble_eq_true rfl)⟩ ⟨(Nat.le_of_ble_eq_true rfl), (Nat.le_of_ble_eq_true rfl)⟩ (Nat.le_of_ble_eq_true rfl) rfl 7 rfl (by decide +kernel) [.int r10] rfl ?_
  refine v_if_eq C 21 10 rfl (by decide +kernel) (fun h11 => ?_) (fun h11 => ?_)
  · have hf := ite2_t hf h11
    obtain ⟨rfl, rfl⟩ := ret_e hf
    exact v_vret C hr (by decide +kernel)
  · have hf := ite2_f hf h11
    refine v_aload_n C 0 0 rfl 11 rfl (by decide +kernel) ?_
    obtain ⟨b12, hb12, hf⟩ := drf_e hf
    obtain ⟨hk_b12, hf⟩ := grd_e hf
    refine v_getR C 3 2 hb12 rfl nin_3 (ns_kd_lt hk_a0 (by decide)) hk_a0 (by decide) (by decide) rfl 15 tw_278 rfl 14 rfl (by decide +kernel) ?_
    refine v_iload_n C 1 1 rfl 15 rfl (by decide +kernel) ?_
    refine v_aload_n C 0 0 rfl 16 rfl (by decide +kernel) ?_
    refine v_lload_n C 2 2 rfl 17 rfl (by decide +kernel) ?_
    obtain ⟨r14, σ13, hcr14, hf⟩ := cl2_e hf
    refine v_cV C 3 rfl (ns_kd_lt hk_a0 (by decide)) hk_a0 (by decide) [.long x2] [.int x1, .ref (G.1 + b12)] (c_Shelf_lowestBits G l σ9 a0 x2 hcr14) 30 1 tw_359 tw_356 tw_358 ts_5 tw_9 hd_Shelf_lowestBits rfl ⟨(Nat.le_of_ble_eq_true rfl), (Nat.le_of_ble_eq_true rfl)⟩ ⟨(Nat.le_of_ble_eq_true rfl), (Nat.le_of_ble_eq_true rfl)⟩ (Nat.le_of_ble_eq_true rfl) rfl 20 rfl (by decide +kernel) [.long r14, .int x1, .ref (G.1 + b12)] rfl ?_
    obtain ⟨hi15, hf⟩ := grd_e hf
    obtain ⟨σ16, hσ16, hf⟩ := bnd_e hf
    refine v_last C hσ16 (ns_kd_lt hk_b12 (by decide)) hk_b12 hi15 21 rfl (by decide +kernel) ?_
    obtain ⟨rfl, rfl⟩ := ret_e hf
    exact v_vret C hr (by decide +kernel)
theorem hd_Shelf_putCell : (⟨"NinthStep$Shelf", "putCell", "(IJ)V"⟩ : MethodName).cls = "NinthStep$Shelf" ∧ (⟨"NinthStep$Shelf", "putCell", "(IJ)V"⟩ : MethodName).cls ≠ "java/lang/invoke/MethodHandle" ∧ (⟨"NinthStep$Shelf", "putCell", "(IJ)V"⟩ : MethodName).cls ≠ "java/lang/invoke/VarHandle" ∧ (parseMethodDescriptor (⟨"NinthStep$Shelf", "putCell", "(IJ)V"⟩ : MethodName).desc).map (fun d => d.parameters.length) = some 2 := by decide +kernel
def g_N_set (σ : ns_St) (a0 : Nat) (x1 : Int32) (x2 : Int32) (x3 : Int64) : Option (Int32 × ns_St) := grd (ns_kd a0 = 8) <| cl2 (g_N_shelfAt σ a0 x1) fun r19 σ18 => onul r19 (cl2 (g_N_refuse σ18 a0 (-2 : Int32)) fun r22 σ21 => some (r22, σ21)) (fun b20 => grd (ns_kd b20 = 3) <| cl2 (g_Shelf_troubleAsRow σ18 b20) fun r24 σ23 => ite2 (r24 = 0) (cl2 (g_N_isWithin σ23 x2 (0 : Int32) ((σ23.1 b20 1) - (1 : Int32))) fun r27 σ26 => ite2 (r27 = 0) (cl2 (g_N_refuse σ26 a0 (-2 : Int32)) fun r32 σ31 => some (r32, σ31)) (cl2 (g_Shelf_putCell σ26 b20 x2 x3) fun r30 σ29 => some ((1 : Int32), σ29))) (cl2 (g_N_refuse σ23 a0 r24) fun r34 σ33 => some (r34, σ33)))
theorem c_N_set (G : ns_G) (l : Launch) (σ : ns_St) (a0 : Nat) (x1 : Int32) (x2 : Int32) (x3 : Int64) {r : Int32} {σ' : ns_St} (hf : g_N_set σ a0 x1 x2 x3 = some (r, σ')) : ns_ok G l ⟨"NinthStep", "set", "(IIJ)I"⟩ prog_1_method_3_code 7 (some .int) 2 45 0 0 [.ref (G.1 + a0), .int x1, .int x2, .long x3] ns_N σ (some (.int r)) ns_N σ' := by
  refine v_open (by decide) (Nat.le_of_ble_eq_true rfl) rfl ?_
  intro p e s m below meth c C hr _
  have C : ns_Cx G p s m _ meth c prog_1_method_3_code "NinthStep" 7 := C
  unfold g_N_set at hf
  obtain ⟨hk_a0, hf⟩ := grd_e hf
  refine v_aload_n C 0 0 rfl 1 rfl (by decide +kernel) ?_
  refine v_iload_n C 1 1 rfl 2 rfl (by decide +kernel) ?_
  obtain ⟨r19, σ18, hcr19, hf⟩ := cl2_e hf
  rcases r19 with _ | b20
  · have hf := onul_n hf
    refine v_cV C 8 rfl (ns_kd_lt hk_a0 (by decide)) hk_a0 (by decide) [.int x1] [] (c_N_shelfAt G l σ a0 x1 hcr19) 71 1 tw_331 tw_328 tw_330 ts_0 tw_1 hd_N_shelfAt rfl ⟨(Nat.le_of_ble_eq_true rfl), (Nat.le_of_ble_eq_true rfl)⟩ ⟨(Nat.le_of_ble_eq_true rfl), (Nat.le_of_ble_eq_true rfl)⟩ (Nat.le_of_ble_eq_true rfl) rfl 5 rfl (by decide +kernel) [.null] rfl ?_
    refine v_astoreN C 5 [(5, .null), (0, .ref (G.1 + a0)), (1, .int x1), (2, .int x2), (3, .long x3)] (by decide) rfl 7 rfl (by decide +kernel) ?_
    refine v_aloadN C 5 0 rfl 9 rfl (by decide +kernel) ?_
    refine v_ifnonnullN C 19 12 rfl (by decide +kernel) ?_
    refine v_aload_n C 0 1 rfl 13 rfl (by decide +kernel) ?_
    refine v_bipush C (-2) (-2) (by decide) 15 rfl (by decide +kernel) ?_
    obtain ⟨r22, σ21, hcr22, hf⟩ := cl2_e hf
    refine v_cV C 8 rfl (ns_kd_lt hk_a0 (by decide)) hk_a0 (by decide) [.int (-2 : Int32)] [] (c_N_refuse G l σ18 a0 (-2 : Int32) hcr22) 79 1 tw_338 tw_335 tw_337 ts_1 tw_1 hd_N_refuse rfl ⟨(Nat.le_of_ble_eq_true rfl), (Nat.le_of_ble_eq_true rfl)⟩ ⟨(Nat.le_of_ble_eq_true rfl), (Nat.le_of_ble_eq_true rfl)⟩ (Nat.le_of_ble_eq_true rfl) rfl 18 rfl (by decide +kernel) [.int r22] rfl ?_
    obtain ⟨rfl, rfl⟩ := ret_e hf
    exact v_iret C hr (by decide +kernel)
  · have hf := onul_s hf
    obtain ⟨hk_b20, hf⟩ := grd_e hf
    refine v_cV C 8 rfl (ns_kd_lt hk_a0 (by decide)) hk_a0 (by decide) [.int x1] [] (c_N_shelfAt G l σ a0 x1 hcr19) 71 1 tw_331 tw_328 tw_330 ts_0 tw_1 hd_N_shelfAt rfl ⟨(Nat.le_of_ble_eq_true rfl), (Nat.le_of_ble_eq_true rfl)⟩ ⟨(Nat.le_of_ble_eq_true rfl), (Nat.le_of_ble_eq_true rfl)⟩ (Nat.le_of_ble_eq_true rfl) rfl 5 rfl (by decide +kernel) [.ref (G.1 + b20)] rfl ?_
    refine v_astore C 5 [(5, .ref (G.1 + b20)), (0, .ref (G.1 + a0)), (1, .int x1), (2, .int x2), (3, .long x3)] (by decide) rfl 7 rfl (by decide +kernel) ?_
    refine v_aload C 5 0 rfl 9 rfl (by decide +kernel) ?_
    refine v_ifnonnull C 19 (by decide +kernel) ?_
    refine v_aload C 5 0 rfl 21 rfl (by decide +kernel) ?_
    obtain ⟨r24, σ23, hcr24, hf⟩ := cl2_e hf
    refine v_cVN C 3 rfl (ns_kd_lt hk_b20 (by decide)) hk_b20 (by decide) [] [] (c_Shelf_troubleAsRow G l σ18 b20 hcr24) 87 0 tw_350 tw_347 tw_349 ts_3 tw_9 hd_Shelf_troubleAsRow rfl ⟨(Nat.le_of_ble_eq_true rfl), (Nat.le_of_ble_eq_true rfl)⟩ ⟨(Nat.le_of_ble_eq_true rfl), (Nat.le_of_ble_eq_true rfl)⟩ (Nat.le_of_ble_eq_true rfl) rfl 24 rfl (by decide +kernel) [.int r24] rfl ?_
    refine v_istore C 6 [(6, .int r24), (5, .ref (G.1 + b20)), (0, .ref (G.1 + a0)), (1, .int x1), (2, .int x2), (3, .long x3)] (by decide) rfl 26 rfl (by decide +kernel) ?_
    refine v_iload C 6 0 rfl 28 rfl (by decide +kernel) ?_
    refine v_if_eq C 38 31 rfl (by decide +kernel) (fun h25 => ?_) (fun h25 => ?_)
    · have hf := ite2_t hf h25
      refine v_iload_n C 2 4 rfl 39 rfl (by decide +kernel) ?_
      refine v_iconst C (0) (0) (by decide) 40 rfl (by decide +kernel) ?_
      refine v_aload C 5 1 rfl 42 rfl (by decide +kernel) ?_
      refine v_getIN C 3 1 rfl nin_3 (ns_kd_lt hk_b20 (by decide)) hk_b20 (by decide) (by decide) rfl 91 tw_277 rfl 45 rfl (by decide +kernel) ?_
      refine v_iconst C (1) (1) (by decide) 46 rfl (by decide +kernel) ?_
      refine v_isub C 47 rfl (by decide +kernel) ?_
      obtain ⟨r27, σ26, hcr27, hf⟩ := cl2_e hf
      refine v_cS C [.int x2, .int (0 : Int32), .int ((σ23.1 b20 1) - (1 : Int32))] [] (c_N_isWithin G l σ23 x2 (0 : Int32) ((σ23.1 b20 1) - (1 : Int32)) hcr27) 75 3 tw_334 tw_332 tw_333 tw_1 hd_N_isWithin rfl ⟨(Nat.le_of_ble_eq_true rfl), (Nat.le_of_ble_eq_true rfl)⟩ ⟨(Nat.le_of_ble_eq_true rfl), (Nat.le_of_ble_eq_true rfl)⟩ (Nat.le_of_ble_eq_true rfl) rfl 50 rfl (by decide +kernel) [.int r27] rfl ?_
      refine v_if_ne C 60 53 rfl (by decide +kernel) (fun h28 => ?_) (fun h28 => ?_)
      · have hf := ite2_f hf h28
        refine v_aload C 5 1 rfl 62 rfl (by decide +kernel) ?_
        refine v_iload_n C 2 4 rfl 63 rfl (by decide +kernel) ?_
        refine v_lload_n C 3 5 rfl 64 rfl (by decide +kernel) ?_
        obtain ⟨r30, σ29, hcr30, hf⟩ := cl2_e hf
        refine v_cVN C 3 rfl (ns_kd_lt hk_b20 (by decide)) hk_b20 (by decide) [.int x2, .long x3] [] (c_Shelf_putCell G l σ26 b20 x2 x3 hcr30) 95 2 tw_354 tw_351 tw_353 ts_4 tw_9 hd_Shelf_putCell rfl ⟨(Nat.le_of_ble_eq_true rfl), (Nat.le_of_ble_eq_true rfl)⟩ ⟨(Nat.le_of_ble_eq_true rfl), (Nat.le_of_ble_eq_true rfl)⟩ (Nat.le_of_ble_eq_true rfl) rfl 67 rfl (by decide +kernel) [] rfl ?_
        refine v_iconst C (1) (1) (by decide) 68 rfl (by decide +kernel) ?_
        obtain ⟨rfl, rfl⟩ := ret_e hf
        exact v_iret C hr (by decide +kernel)
      · have hf := ite2_t hf h28
        refine v_aload_n C 0 2 rfl 54 rfl (by decide +kernel) ?_
        refine v_bipush C (-2) (-2) (by decide) 56 rfl (by decide +kernel) ?_
        obtain ⟨r32, σ31, hcr32, hf⟩ := cl2_e hf
        refine v_cV C 8 rfl (ns_kd_lt hk_a0 (by decide)) hk_a0 (by decide) [.int (-2 : Int32)] [] (c_N_refuse G l σ26 a0 (-2 : Int32) hcr32) 79 1 tw_338 tw_335 tw_337 ts_1 tw_1 hd_N_refuse rfl ⟨(Nat.le_of_ble_eq_true rfl), (Nat.le_of_ble_eq_true rfl)⟩ ⟨(Nat.le_of_ble_eq_true rfl), (Nat.le_of_ble_eq_true rfl)⟩ (Nat.le_of_ble_eq_true rfl) rfl 59 rfl (by decide +kernel) [.int r32] rfl ?_
        obtain ⟨rfl, rfl⟩ := ret_e hf
        exact v_iret C hr (by decide +kernel)
    · have hf := ite2_f hf h25
      refine v_aload_n C 0 2 rfl 32 rfl (by decide +kernel) ?_
      refine v_iload C 6 0 rfl 34 rfl (by decide +kernel) ?_
      obtain ⟨r34, σ33, hcr34, hf⟩ := cl2_e hf
      refine v_cV C 8 rfl (ns_kd_lt hk_a0 (by decide)) hk_a0 (by decide) [.int r24] [] (c_N_refuse G l σ23 a0 r24 hcr34) 79 1 tw_338 tw_335 tw_337 ts_1 tw_1 hd_N_refuse rfl ⟨(Nat.le_of_ble_eq_true rfl), (Nat.le_of_ble_eq_true rfl)⟩ ⟨(Nat.le_of_ble_eq_true rfl), (Nat.le_of_ble_eq_true rfl)⟩ (Nat.le_of_ble_eq_true rfl) rfl 37 rfl (by decide +kernel) [.int r34] rfl ?_
      obtain ⟨rfl, rfl⟩ := ret_e hf
      exact v_iret C hr (by decide +kernel)
theorem hd_N_set : (⟨"NinthStep", "set", "(IIJ)I"⟩ : MethodName).cls = "NinthStep" ∧ (⟨"NinthStep", "set", "(IIJ)I"⟩ : MethodName).cls ≠ "java/lang/invoke/MethodHandle" ∧ (⟨"NinthStep", "set", "(IIJ)I"⟩ : MethodName).cls ≠ "java/lang/invoke/VarHandle" ∧ (parseMethodDescriptor (⟨"NinthStep", "set", "(IIJ)I"⟩ : MethodName).desc).map (fun d => d.parameters.length) = some 3 := by decide +kernel
def g_N_troubleAsPair (σ : ns_St) (a0 : Nat) (a1 : Nat) : Option (Int32 × ns_St) := grd (ns_kd a0 = 3) <| grd (ns_kd a1 = 3) <| cl2 (g_Shelf_troubleAsRow σ a0) fun r11 σ10 => cl2 (g_Shelf_troubleAsRow σ10 a1) fun r13 σ12 => ite2 (r11 = (-3 : Int32)) (some ((-3 : Int32), σ12)) (ite2 (r13 = (-3 : Int32)) (some ((-3 : Int32), σ12)) (ite2 (r11 = (-4 : Int32)) (some ((-4 : Int32), σ12)) (ite2 (r13 = (-4 : Int32)) (some ((-4 : Int32), σ12)) (ite2 ((σ12.1 a0 0) = (σ12.1 a1 0)) (some ((0 : Int32), σ12)) (some ((-3 : Int32), σ12))))))
theorem c_N_troubleAsPair (G : ns_G) (l : Launch) (σ : ns_St) (a0 : Nat) (a1 : Nat) {r : Int32} {σ' : ns_St} (hf : g_N_troubleAsPair σ a0 a1 = some (r, σ')) : ns_ok G l ⟨"NinthStep", "troubleAsPair", "(LNinthStep$Shelf;LNinthStep$Shelf;)I"⟩ prog_1_method_50_code 4 (some .int) 1 20 0 0 [.ref (G.1 + a0), .ref (G.1 + a1)] ns_N σ (some (.int r)) ns_N σ' := by
  refine v_open (by decide) (Nat.le_of_ble_eq_true rfl) rfl ?_
  intro p e s m below meth c C hr _
  have C : ns_Cx G p s m _ meth c prog_1_method_50_code "NinthStep" 4 := C
  unfold g_N_troubleAsPair at hf
  obtain ⟨hk_a0, hf⟩ := grd_e hf
  obtain ⟨hk_a1, hf⟩ := grd_e hf
  refine v_aload_n C 0 0 rfl 1 rfl (by decide +kernel) ?_
  obtain ⟨r11, σ10, hcr11, hf⟩ := cl2_e hf
  refine v_cVN C 3 rfl (ns_kd_lt hk_a0 (by decide)) hk_a0 (by decide) [] [] (c_Shelf_troubleAsRow G l σ a0 hcr11) 87 0 tw_350 tw_347 tw_349 ts_3 tw_9 hd_Shelf_troubleAsRow rfl ⟨(Nat.le_of_ble_eq_true rfl), (Nat.le_of_ble_eq_true rfl)⟩ ⟨(Nat.le_of_ble_eq_true rfl), (Nat.le_of_ble_eq_true rfl)⟩ (Nat.le_of_ble_eq_true rfl) rfl 4 rfl (by decide +kernel) [.int r11] rfl ?_
  refine v_istore_n C 2 [(2, .int r11), (0, .ref (G.1 + a0)), (1, .ref (G.1 + a1))] (by decide) rfl 5 rfl (by decide +kernel) ?_
  refine v_aload_n C 1 2 rfl 6 rfl (by decide +kernel) ?_
  obtain ⟨r13, σ12, hcr13, hf⟩ := cl2_e hf
  refine v_cVN C 3 rfl (ns_kd_lt hk_a1 (by decide)) hk_a1 (by decide) [] [] (c_Shelf_troubleAsRow G l σ10 a1 hcr13) 87 0 tw_350 tw_347 tw_349 ts_3 tw_9 hd_Shelf_troubleAsRow rfl ⟨(Nat.le_of_ble_eq_true rfl), (Nat.le_of_ble_eq_true rfl)⟩ ⟨(Nat.le_of_ble_eq_true rfl), (Nat.le_of_ble_eq_true rfl)⟩ (Nat.le_of_ble_eq_true rfl) rfl 9 rfl (by decide +kernel) [.int r13] rfl ?_
  refine v_istore_n C 3 [(3, .int r13), (2, .int r11), (0, .ref (G.1 + a0)), (1, .ref (G.1 + a1))] (by decide) rfl 10 rfl (by decide +kernel) ?_
  refine v_iload_n C 2 1 rfl 11 rfl (by decide +kernel) ?_
  refine v_bipush C (-3) (-3) (by decide) 13 rfl (by decide +kernel) ?_
  refine v_icmp_eq C 22 16 rfl (by decide +kernel) (fun h14 => ?_) (fun h14 => ?_)
  · have hf := ite2_t hf h14
    refine v_bipush C (-3) (-3) (by decide) 24 rfl (by decide +kernel) ?_
    obtain ⟨rfl, rfl⟩ := ret_e hf
    exact v_iret C hr (by decide +kernel)
  · have hf := ite2_f hf h14
    refine v_iload_n C 3 0 rfl 17 rfl (by decide +kernel) ?_
    refine v_bipush C (-3) (-3) (by decide) 19 rfl (by decide +kernel) ?_
    refine v_icmp_ne C 25 22 rfl (by decide +kernel) (fun h15 => ?_) (fun h15 => ?_)
    · have hf := ite2_f hf h15
      refine v_iload_n C 2 1 rfl 26 rfl (by decide +kernel) ?_
      refine v_bipush C (-4) (-4) (by decide) 28 rfl (by decide +kernel) ?_
      refine v_icmp_eq C 37 31 rfl (by decide +kernel) (fun h16 => ?_) (fun h16 => ?_)
      · have hf := ite2_t hf h16
        refine v_bipush C (-4) (-4) (by decide) 39 rfl (by decide +kernel) ?_
        obtain ⟨rfl, rfl⟩ := ret_e hf
        exact v_iret C hr (by decide +kernel)
      · have hf := ite2_f hf h16
        refine v_iload_n C 3 0 rfl 32 rfl (by decide +kernel) ?_
        refine v_bipush C (-4) (-4) (by decide) 34 rfl (by decide +kernel) ?_
        refine v_icmp_ne C 40 37 rfl (by decide +kernel) (fun h17 => ?_) (fun h17 => ?_)
        · have hf := ite2_f hf h17
          refine v_aload_n C 0 2 rfl 41 rfl (by decide +kernel) ?_
          refine v_getIN C 3 0 rfl nin_3 (ns_kd_lt hk_a0 (by decide)) hk_a0 (by decide) (by decide) rfl 117 tw_275 rfl 44 rfl (by decide +kernel) ?_
          refine v_aload_n C 1 3 rfl 45 rfl (by decide +kernel) ?_
          refine v_getIN C 3 0 rfl nin_3 (ns_kd_lt hk_a1 (by decide)) hk_a1 (by decide) (by decide) rfl 117 tw_275 rfl 48 rfl (by decide +kernel) ?_
          refine v_icmp_ne C 55 51 rfl (by decide +kernel) (fun h18 => ?_) (fun h18 => ?_)
          · have hf := ite2_f hf h18
            refine v_bipush C (-3) (-3) (by decide) 57 rfl (by decide +kernel) ?_
            obtain ⟨rfl, rfl⟩ := ret_e hf
            exact v_iret C hr (by decide +kernel)
          · have hf := ite2_t hf h18
            refine v_iconst C (0) (0) (by decide) 52 rfl (by decide +kernel) ?_
            refine v_goto C 57 (by decide +kernel) ?_
            obtain ⟨rfl, rfl⟩ := ret_e hf
            exact v_iret C hr (by decide +kernel)
        · have hf := ite2_t hf h17
          refine v_bipush C (-4) (-4) (by decide) 39 rfl (by decide +kernel) ?_
          obtain ⟨rfl, rfl⟩ := ret_e hf
          exact v_iret C hr (by decide +kernel)
    · have hf := ite2_t hf h15
      refine v_bipush C (-3) (-3) (by decide) 24 rfl (by decide +kernel) ?_
      obtain ⟨rfl, rfl⟩ := ret_e hf
      exact v_iret C hr (by decide +kernel)
theorem hd_N_troubleAsPair : (⟨"NinthStep", "troubleAsPair", "(LNinthStep$Shelf;LNinthStep$Shelf;)I"⟩ : MethodName).cls ≠ "java/lang/invoke/MethodHandle" ∧ (⟨"NinthStep", "troubleAsPair", "(LNinthStep$Shelf;LNinthStep$Shelf;)I"⟩ : MethodName).cls ≠ "java/lang/invoke/VarHandle" ∧ (parseMethodDescriptor (⟨"NinthStep", "troubleAsPair", "(LNinthStep$Shelf;LNinthStep$Shelf;)I"⟩ : MethodName).desc).map (fun d => d.parameters.length) = some 2 := by decide +kernel
def g_N_copy (σ : ns_St) (a0 : Nat) (x1 : Int32) (x2 : Int32) (x3 : Int32) (x4 : Int32) (x5 : Int32) : Option (Int32 × ns_St) := grd (ns_kd a0 = 8) <| cl2 (g_N_shelfAt σ a0 x1) fun r39 σ38 => onul r39 (cl2 (g_N_shelfAt σ38 a0 x2) fun r42 σ41 => onul r42 (cl2 (g_N_refuse σ41 a0 (-2 : Int32)) fun r45 σ44 => some (r45, σ44)) (fun b43 => grd (ns_kd b43 = 3) <| cl2 (g_N_refuse σ41 a0 (-2 : Int32)) fun r47 σ46 => some (r47, σ46))) (fun b40 => grd (ns_kd b40 = 3) <| cl2 (g_N_shelfAt σ38 a0 x2) fun r49 σ48 => onul r49 (cl2 (g_N_refuse σ48 a0 (-2 : Int32)) fun r52 σ51 => some (r52, σ51)) (fun b50 => grd (ns_kd b50 = 3) <| cl2 (g_N_troubleAsPair σ48 b40 b50) fun r54 σ53 => ite2 (r54 = 0) (ite2 (x5 < 0) (cl2 (g_N_refuse σ53 a0 (-2 : Int32)) fun r58 σ57 => some (r58, σ57)) (cl2 (g_N_isWithin σ53 x3 (0 : Int32) ((σ53.1 b40 1) - x5)) fun r60 σ59 => ite2 (r60 = 0) (cl2 (g_N_refuse σ59 a0 (-2 : Int32)) fun r63 σ62 => some (r63, σ62)) (cl2 (g_N_isWithin σ59 x4 (0 : Int32) ((σ59.1 b50 1) - x5)) fun r65 σ64 => ite2 (r65 = 0) (cl2 (g_N_refuse σ64 a0 (-2 : Int32)) fun r72 σ71 => some (r72, σ71)) (drf (σ64.2.2 b40 2) fun b67 => grd (ns_kd b67 = 11) <| drf (σ64.2.2 b50 2) fun b68 => grd (ns_kd b68 = 11) <| grd (¬ x3 < 0 ∧ ¬ x4 < 0 ∧ ¬ x5 < 0 ∧ ns_ix x3 + ns_ix x5 ≤ ns_ln b67 ∧ ns_ix x4 + ns_ix x5 ≤ ns_ln b68) <| bnd (ns_cpJ σ64 b67 (ns_ix x3) b68 (ns_ix x4) (ns_ix x5)) fun σ69 => some (x5, σ69))))) (cl2 (g_N_refuse σ53 a0 r54) fun r74 σ73 => some (r74, σ73))))
theorem c_N_copy (G : ns_G) (l : Launch) (σ : ns_St) (a0 : Nat) (x1 : Int32) (x2 : Int32) (x3 : Int32) (x4 : Int32) (x5 : Int32) {r : Int32} {σ' : ns_St} (hf : g_N_copy σ a0 x1 x2 x3 x4 x5 = some (r, σ')) : ns_ok G l ⟨"NinthStep", "copy", "(IIIII)I"⟩ prog_1_method_4_code 9 (some .int) 2 80 0 0 [.ref (G.1 + a0), .int x1, .int x2, .int x3, .int x4, .int x5] ns_N σ (some (.int r)) ns_N σ' := by
  refine v_open (by decide) (Nat.le_of_ble_eq_true rfl) rfl ?_
  intro p e s m below meth c C hr _
  have C : ns_Cx G p s m _ meth c prog_1_method_4_code "NinthStep" 9 := C
  unfold g_N_copy at hf
  obtain ⟨hk_a0, hf⟩ := grd_e hf
  refine v_aload_n C 0 0 rfl 1 rfl (by decide +kernel) ?_
  refine v_iload_n C 1 1 rfl 2 rfl (by decide +kernel) ?_
  obtain ⟨r39, σ38, hcr39, hf⟩ := cl2_e hf
  rcases r39 with _ | b40
  · have hf := onul_n hf
    refine v_cV C 8 rfl (ns_kd_lt hk_a0 (by decide)) hk_a0 (by decide) [.int x1] [] (c_N_shelfAt G l σ a0 x1 hcr39) 71 1 tw_331 tw_328 tw_330 ts_0 tw_1 hd_N_shelfAt rfl ⟨(Nat.le_of_ble_eq_true rfl), (Nat.le_of_ble_eq_true rfl)⟩ ⟨(Nat.le_of_ble_eq_true rfl), (Nat.le_of_ble_eq_true rfl)⟩ (Nat.le_of_ble_eq_true rfl) rfl 5 rfl (by decide +kernel) [.null] rfl ?_
    refine v_astoreN C 6 [(6, .null), (0, .ref (G.1 + a0)), (1, .int x1), (2, .int x2), (3, .int x3), (4, .int x4), (5, .int x5)] (by decide) rfl 7 rfl (by decide +kernel) ?_
    refine v_aload_n C 0 1 rfl 8 rfl (by decide +kernel) ?_
    refine v_iload_n C 2 3 rfl 9 rfl (by decide +kernel) ?_
    obtain ⟨r42, σ41, hcr42, hf⟩ := cl2_e hf
    rcases r42 with _ | b43
    · have hf := onul_n hf
      refine v_cV C 8 rfl (ns_kd_lt hk_a0 (by decide)) hk_a0 (by decide) [.int x2] [] (c_N_shelfAt G l σ38 a0 x2 hcr42) 71 1 tw_331 tw_328 tw_330 ts_0 tw_1 hd_N_shelfAt rfl ⟨(Nat.le_of_ble_eq_true rfl), (Nat.le_of_ble_eq_true rfl)⟩ ⟨(Nat.le_of_ble_eq_true rfl), (Nat.le_of_ble_eq_true rfl)⟩ (Nat.le_of_ble_eq_true rfl) rfl 12 rfl (by decide +kernel) [.null] rfl ?_
      refine v_astoreN C 7 [(7, .null), (6, .null), (0, .ref (G.1 + a0)), (1, .int x1), (2, .int x2), (3, .int x3), (4, .int x4), (5, .int x5)] (by decide) rfl 14 rfl (by decide +kernel) ?_
      refine v_aloadN C 6 1 rfl 16 rfl (by decide +kernel) ?_
      refine v_ifnullN C 24 (by decide +kernel) ?_
      refine v_aload_n C 0 2 rfl 25 rfl (by decide +kernel) ?_
      refine v_bipush C (-2) (-2) (by decide) 27 rfl (by decide +kernel) ?_
      obtain ⟨r45, σ44, hcr45, hf⟩ := cl2_e hf
      refine v_cV C 8 rfl (ns_kd_lt hk_a0 (by decide)) hk_a0 (by decide) [.int (-2 : Int32)] [] (c_N_refuse G l σ41 a0 (-2 : Int32) hcr45) 79 1 tw_338 tw_335 tw_337 ts_1 tw_1 hd_N_refuse rfl ⟨(Nat.le_of_ble_eq_true rfl), (Nat.le_of_ble_eq_true rfl)⟩ ⟨(Nat.le_of_ble_eq_true rfl), (Nat.le_of_ble_eq_true rfl)⟩ (Nat.le_of_ble_eq_true rfl) rfl 30 rfl (by decide +kernel) [.int r45] rfl ?_
      obtain ⟨rfl, rfl⟩ := ret_e hf
      exact v_iret C hr (by decide +kernel)
    · have hf := onul_s hf
      obtain ⟨hk_b43, hf⟩ := grd_e hf
      refine v_cV C 8 rfl (ns_kd_lt hk_a0 (by decide)) hk_a0 (by decide) [.int x2] [] (c_N_shelfAt G l σ38 a0 x2 hcr42) 71 1 tw_331 tw_328 tw_330 ts_0 tw_1 hd_N_shelfAt rfl ⟨(Nat.le_of_ble_eq_true rfl), (Nat.le_of_ble_eq_true rfl)⟩ ⟨(Nat.le_of_ble_eq_true rfl), (Nat.le_of_ble_eq_true rfl)⟩ (Nat.le_of_ble_eq_true rfl) rfl 12 rfl (by decide +kernel) [.ref (G.1 + b43)] rfl ?_
      refine v_astore C 7 [(7, .ref (G.1 + b43)), (6, .null), (0, .ref (G.1 + a0)), (1, .int x1), (2, .int x2), (3, .int x3), (4, .int x4), (5, .int x5)] (by decide) rfl 14 rfl (by decide +kernel) ?_
      refine v_aloadN C 6 1 rfl 16 rfl (by decide +kernel) ?_
      refine v_ifnullN C 24 (by decide +kernel) ?_
      refine v_aload_n C 0 2 rfl 25 rfl (by decide +kernel) ?_
      refine v_bipush C (-2) (-2) (by decide) 27 rfl (by decide +kernel) ?_
      obtain ⟨r47, σ46, hcr47, hf⟩ := cl2_e hf
      refine v_cV C 8 rfl (ns_kd_lt hk_a0 (by decide)) hk_a0 (by decide) [.int (-2 : Int32)] [] (c_N_refuse G l σ41 a0 (-2 : Int32) hcr47) 79 1 tw_338 tw_335 tw_337 ts_1 tw_1 hd_N_refuse rfl ⟨(Nat.le_of_ble_eq_true rfl), (Nat.le_of_ble_eq_true rfl)⟩ ⟨(Nat.le_of_ble_eq_true rfl), (Nat.le_of_ble_eq_true rfl)⟩ (Nat.le_of_ble_eq_true rfl) rfl 30 rfl (by decide +kernel) [.int r47] rfl ?_
      obtain ⟨rfl, rfl⟩ := ret_e hf
      exact v_iret C hr (by decide +kernel)
  · have hf := onul_s hf
    obtain ⟨hk_b40, hf⟩ := grd_e hf
    refine v_cV C 8 rfl (ns_kd_lt hk_a0 (by decide)) hk_a0 (by decide) [.int x1] [] (c_N_shelfAt G l σ a0 x1 hcr39) 71 1 tw_331 tw_328 tw_330 ts_0 tw_1 hd_N_shelfAt rfl ⟨(Nat.le_of_ble_eq_true rfl), (Nat.le_of_ble_eq_true rfl)⟩ ⟨(Nat.le_of_ble_eq_true rfl), (Nat.le_of_ble_eq_true rfl)⟩ (Nat.le_of_ble_eq_true rfl) rfl 5 rfl (by decide +kernel) [.ref (G.1 + b40)] rfl ?_
    refine v_astore C 6 [(6, .ref (G.1 + b40)), (0, .ref (G.1 + a0)), (1, .int x1), (2, .int x2), (3, .int x3), (4, .int x4), (5, .int x5)] (by decide) rfl 7 rfl (by decide +kernel) ?_
    refine v_aload_n C 0 1 rfl 8 rfl (by decide +kernel) ?_
    refine v_iload_n C 2 3 rfl 9 rfl (by decide +kernel) ?_
    obtain ⟨r49, σ48, hcr49, hf⟩ := cl2_e hf
    rcases r49 with _ | b50
    · have hf := onul_n hf
      refine v_cV C 8 rfl (ns_kd_lt hk_a0 (by decide)) hk_a0 (by decide) [.int x2] [] (c_N_shelfAt G l σ38 a0 x2 hcr49) 71 1 tw_331 tw_328 tw_330 ts_0 tw_1 hd_N_shelfAt rfl ⟨(Nat.le_of_ble_eq_true rfl), (Nat.le_of_ble_eq_true rfl)⟩ ⟨(Nat.le_of_ble_eq_true rfl), (Nat.le_of_ble_eq_true rfl)⟩ (Nat.le_of_ble_eq_true rfl) rfl 12 rfl (by decide +kernel) [.null] rfl ?_
      refine v_astoreN C 7 [(7, .null), (6, .ref (G.1 + b40)), (0, .ref (G.1 + a0)), (1, .int x1), (2, .int x2), (3, .int x3), (4, .int x4), (5, .int x5)] (by decide) rfl 14 rfl (by decide +kernel) ?_
      refine v_aload C 6 1 rfl 16 rfl (by decide +kernel) ?_
      refine v_ifnull C 24 19 rfl (by decide +kernel) ?_
      refine v_aloadN C 7 0 rfl 21 rfl (by decide +kernel) ?_
      refine v_ifnonnullN C 31 24 rfl (by decide +kernel) ?_
      refine v_aload_n C 0 2 rfl 25 rfl (by decide +kernel) ?_
      refine v_bipush C (-2) (-2) (by decide) 27 rfl (by decide +kernel) ?_
      obtain ⟨r52, σ51, hcr52, hf⟩ := cl2_e hf
      refine v_cV C 8 rfl (ns_kd_lt hk_a0 (by decide)) hk_a0 (by decide) [.int (-2 : Int32)] [] (c_N_refuse G l σ48 a0 (-2 : Int32) hcr52) 79 1 tw_338 tw_335 tw_337 ts_1 tw_1 hd_N_refuse rfl ⟨(Nat.le_of_ble_eq_true rfl), (Nat.le_of_ble_eq_true rfl)⟩ ⟨(Nat.le_of_ble_eq_true rfl), (Nat.le_of_ble_eq_true rfl)⟩ (Nat.le_of_ble_eq_true rfl) rfl 30 rfl (by decide +kernel) [.int r52] rfl ?_
      obtain ⟨rfl, rfl⟩ := ret_e hf
      exact v_iret C hr (by decide +kernel)
    · have hf := onul_s hf
      obtain ⟨hk_b50, hf⟩ := grd_e hf
      refine v_cV C 8 rfl (ns_kd_lt hk_a0 (by decide)) hk_a0 (by decide) [.int x2] [] (c_N_shelfAt G l σ38 a0 x2 hcr49) 71 1 tw_331 tw_328 tw_330 ts_0 tw_1 hd_N_shelfAt rfl ⟨(Nat.le_of_ble_eq_true rfl), (Nat.le_of_ble_eq_true rfl)⟩ ⟨(Nat.le_of_ble_eq_true rfl), (Nat.le_of_ble_eq_true rfl)⟩ (Nat.le_of_ble_eq_true rfl) rfl 12 rfl (by decide +kernel) [.ref (G.1 + b50)] rfl ?_
      refine v_astore C 7 [(7, .ref (G.1 + b50)), (6, .ref (G.1 + b40)), (0, .ref (G.1 + a0)), (1, .int x1), (2, .int x2), (3, .int x3), (4, .int x4), (5, .int x5)] (by decide) rfl 14 rfl (by decide +kernel) ?_
      refine v_aload C 6 1 rfl 16 rfl (by decide +kernel) ?_
      refine v_ifnull C 24 19 rfl (by decide +kernel) ?_
      refine v_aload C 7 0 rfl 21 rfl (by decide +kernel) ?_
      refine v_ifnonnull C 31 (by decide +kernel) ?_
      refine v_aload C 6 1 rfl 33 rfl (by decide +kernel) ?_
      refine v_aload C 7 0 rfl 35 rfl (by decide +kernel) ?_
      obtain ⟨r54, σ53, hcr54, hf⟩ := cl2_e hf
      refine v_cS C [.ref (G.1 + b40), .ref (G.1 + b50)] [] (c_N_troubleAsPair G l σ48 b40 b50 hcr54) 99 2 tw_366 tw_364 tw_365 tw_1 hd_N_troubleAsPair rfl ⟨(Nat.le_of_ble_eq_true rfl), (Nat.le_of_ble_eq_true rfl)⟩ ⟨(Nat.le_of_ble_eq_true rfl), (Nat.le_of_ble_eq_true rfl)⟩ (Nat.le_of_ble_eq_true rfl) rfl 38 rfl (by decide +kernel) [.int r54] rfl ?_
      refine v_istore C 8 [(8, .int r54), (7, .ref (G.1 + b50)), (6, .ref (G.1 + b40)), (0, .ref (G.1 + a0)), (1, .int x1), (2, .int x2), (3, .int x3), (4, .int x4), (5, .int x5)] (by decide) rfl 40 rfl (by decide +kernel) ?_
      refine v_iload C 8 0 rfl 42 rfl (by decide +kernel) ?_
      refine v_if_eq C 52 45 rfl (by decide +kernel) (fun h55 => ?_) (fun h55 => ?_)
      · have hf := ite2_t hf h55
        refine v_iload C 5 8 rfl 54 rfl (by decide +kernel) ?_
        refine v_if_lt C 90 57 rfl (by decide +kernel) (fun h56 => ?_) (fun h56 => ?_)
        · have hf := ite2_t hf h56
          refine v_aload_n C 0 3 rfl 91 rfl (by decide +kernel) ?_
          refine v_bipush C (-2) (-2) (by decide) 93 rfl (by decide +kernel) ?_
          obtain ⟨r58, σ57, hcr58, hf⟩ := cl2_e hf
          refine v_cV C 8 rfl (ns_kd_lt hk_a0 (by decide)) hk_a0 (by decide) [.int (-2 : Int32)] [] (c_N_refuse G l σ53 a0 (-2 : Int32) hcr58) 79 1 tw_338 tw_335 tw_337 ts_1 tw_1 hd_N_refuse rfl ⟨(Nat.le_of_ble_eq_true rfl), (Nat.le_of_ble_eq_true rfl)⟩ ⟨(Nat.le_of_ble_eq_true rfl), (Nat.le_of_ble_eq_true rfl)⟩ (Nat.le_of_ble_eq_true rfl) rfl 96 rfl (by decide +kernel) [.int r58] rfl ?_
          obtain ⟨rfl, rfl⟩ := ret_e hf
          exact v_iret C hr (by decide +kernel)
        · have hf := ite2_f hf h56
          refine v_iload_n C 3 6 rfl 58 rfl (by decide +kernel) ?_
          refine v_iconst C (0) (0) (by decide) 59 rfl (by decide +kernel) ?_
          refine v_aload C 6 2 rfl 61 rfl (by decide +kernel) ?_
          refine v_getIN C 3 1 rfl nin_3 (ns_kd_lt hk_b40 (by decide)) hk_b40 (by decide) (by decide) rfl 91 tw_277 rfl 64 rfl (by decide +kernel) ?_
          refine v_iload C 5 8 rfl 66 rfl (by decide +kernel) ?_
          refine v_isub C 67 rfl (by decide +kernel) ?_
          obtain ⟨r60, σ59, hcr60, hf⟩ := cl2_e hf
          refine v_cS C [.int x3, .int (0 : Int32), .int ((σ53.1 b40 1) - x5)] [] (c_N_isWithin G l σ53 x3 (0 : Int32) ((σ53.1 b40 1) - x5) hcr60) 75 3 tw_334 tw_332 tw_333 tw_1 hd_N_isWithin rfl ⟨(Nat.le_of_ble_eq_true rfl), (Nat.le_of_ble_eq_true rfl)⟩ ⟨(Nat.le_of_ble_eq_true rfl), (Nat.le_of_ble_eq_true rfl)⟩ (Nat.le_of_ble_eq_true rfl) rfl 70 rfl (by decide +kernel) [.int r60] rfl ?_
          refine v_if_eq C 90 73 rfl (by decide +kernel) (fun h61 => ?_) (fun h61 => ?_)
          · have hf := ite2_t hf h61
            refine v_aload_n C 0 3 rfl 91 rfl (by decide +kernel) ?_
            refine v_bipush C (-2) (-2) (by decide) 93 rfl (by decide +kernel) ?_
            obtain ⟨r63, σ62, hcr63, hf⟩ := cl2_e hf
            refine v_cV C 8 rfl (ns_kd_lt hk_a0 (by decide)) hk_a0 (by decide) [.int (-2 : Int32)] [] (c_N_refuse G l σ59 a0 (-2 : Int32) hcr63) 79 1 tw_338 tw_335 tw_337 ts_1 tw_1 hd_N_refuse rfl ⟨(Nat.le_of_ble_eq_true rfl), (Nat.le_of_ble_eq_true rfl)⟩ ⟨(Nat.le_of_ble_eq_true rfl), (Nat.le_of_ble_eq_true rfl)⟩ (Nat.le_of_ble_eq_true rfl) rfl 96 rfl (by decide +kernel) [.int r63] rfl ?_
            obtain ⟨rfl, rfl⟩ := ret_e hf
            exact v_iret C hr (by decide +kernel)
          · have hf := ite2_f hf h61
            refine v_iload C 4 7 rfl 75 rfl (by decide +kernel) ?_
            refine v_iconst C (0) (0) (by decide) 76 rfl (by decide +kernel) ?_
            refine v_aload C 7 1 rfl 78 rfl (by decide +kernel) ?_
            refine v_getIN C 3 1 rfl nin_3 (ns_kd_lt hk_b50 (by decide)) hk_b50 (by decide) (by decide) rfl 91 tw_277 rfl 81 rfl (by decide +kernel) ?_
            refine v_iload C 5 8 rfl 83 rfl (by decide +kernel) ?_
            refine v_isub C 84 rfl (by decide +kernel) ?_
            obtain ⟨r65, σ64, hcr65, hf⟩ := cl2_e hf
            refine v_cS C [.int x4, .int (0 : Int32), .int ((σ59.1 b50 1) - x5)] [] (c_N_isWithin G l σ59 x4 (0 : Int32) ((σ59.1 b50 1) - x5) hcr65) 75 3 tw_334 tw_332 tw_333 tw_1 hd_N_isWithin rfl ⟨(Nat.le_of_ble_eq_true rfl), (Nat.le_of_ble_eq_true rfl)⟩ ⟨(Nat.le_of_ble_eq_true rfl), (Nat.le_of_ble_eq_true rfl)⟩ (Nat.le_of_ble_eq_true rfl) rfl 87 rfl (by decide +kernel) [.int r65] rfl ?_
            refine v_if_ne C 97 90 rfl (by decide +kernel) (fun h66 => ?_) (fun h66 => ?_)
            · have hf := ite2_f hf h66
              refine v_aload C 6 2 rfl 99 rfl (by decide +kernel) ?_
              obtain ⟨b67, hb67, hf⟩ := drf_e hf
              obtain ⟨hk_b67, hf⟩ := grd_e hf
              refine v_getRN C 3 2 hb67 rfl nin_3 (ns_kd_lt hk_b40 (by decide)) hk_b40 (by decide) (by decide) rfl 103 tw_279 rfl 102 rfl (by decide +kernel) ?_
              refine v_iload_n C 3 6 rfl 103 rfl (by decide +kernel) ?_
              refine v_aload C 7 1 rfl 105 rfl (by decide +kernel) ?_
              obtain ⟨b68, hb68, hf⟩ := drf_e hf
              obtain ⟨hk_b68, hf⟩ := grd_e hf
              refine v_getRN C 3 2 hb68 rfl nin_3 (ns_kd_lt hk_b50 (by decide)) hk_b50 (by decide) (by decide) rfl 103 tw_279 rfl 108 rfl (by decide +kernel) ?_
              refine v_iload C 4 7 rfl 110 rfl (by decide +kernel) ?_
              refine v_iload C 5 8 rfl 112 rfl (by decide +kernel) ?_
              obtain ⟨hc70, hf⟩ := grd_e hf
              obtain ⟨σ69, hσ69, hf⟩ := bnd_e hf
              refine v_cpJ C hσ69 rfl (ns_kd_lt hk_b67 (by decide)) hk_b67 (ns_kd_lt hk_b68 (by decide)) hk_b68 hc70 107 tw_367 tw_369 tw_368 tw_11 (Nat.le_of_ble_eq_true rfl) (Nat.le_of_ble_eq_true rfl) 115 rfl (by decide +kernel) ?_
              refine v_iload C 5 8 rfl 117 rfl (by decide +kernel) ?_
              obtain ⟨rfl, rfl⟩ := ret_e hf
              exact v_iret C hr (by decide +kernel)
            · have hf := ite2_t hf h66
              refine v_aload_n C 0 3 rfl 91 rfl (by decide +kernel) ?_
              refine v_bipush C (-2) (-2) (by decide) 93 rfl (by decide +kernel) ?_
              obtain ⟨r72, σ71, hcr72, hf⟩ := cl2_e hf
              refine v_cV C 8 rfl (ns_kd_lt hk_a0 (by decide)) hk_a0 (by decide) [.int (-2 : Int32)] [] (c_N_refuse G l σ64 a0 (-2 : Int32) hcr72) 79 1 tw_338 tw_335 tw_337 ts_1 tw_1 hd_N_refuse rfl ⟨(Nat.le_of_ble_eq_true rfl), (Nat.le_of_ble_eq_true rfl)⟩ ⟨(Nat.le_of_ble_eq_true rfl), (Nat.le_of_ble_eq_true rfl)⟩ (Nat.le_of_ble_eq_true rfl) rfl 96 rfl (by decide +kernel) [.int r72] rfl ?_
              obtain ⟨rfl, rfl⟩ := ret_e hf
              exact v_iret C hr (by decide +kernel)
      · have hf := ite2_f hf h55
        refine v_aload_n C 0 3 rfl 46 rfl (by decide +kernel) ?_
        refine v_iload C 8 0 rfl 48 rfl (by decide +kernel) ?_
        obtain ⟨r74, σ73, hcr74, hf⟩ := cl2_e hf
        refine v_cV C 8 rfl (ns_kd_lt hk_a0 (by decide)) hk_a0 (by decide) [.int r54] [] (c_N_refuse G l σ53 a0 r54 hcr74) 79 1 tw_338 tw_335 tw_337 ts_1 tw_1 hd_N_refuse rfl ⟨(Nat.le_of_ble_eq_true rfl), (Nat.le_of_ble_eq_true rfl)⟩ ⟨(Nat.le_of_ble_eq_true rfl), (Nat.le_of_ble_eq_true rfl)⟩ (Nat.le_of_ble_eq_true rfl) rfl 51 rfl (by decide +kernel) [.int r74] rfl ?_
        obtain ⟨rfl, rfl⟩ := ret_e hf
        exact v_iret C hr (by decide +kernel)
theorem hd_N_copy : (⟨"NinthStep", "copy", "(IIIII)I"⟩ : MethodName).cls = "NinthStep" ∧ (⟨"NinthStep", "copy", "(IIIII)I"⟩ : MethodName).cls ≠ "java/lang/invoke/MethodHandle" ∧ (⟨"NinthStep", "copy", "(IIIII)I"⟩ : MethodName).cls ≠ "java/lang/invoke/VarHandle" ∧ (parseMethodDescriptor (⟨"NinthStep", "copy", "(IIIII)I"⟩ : MethodName).desc).map (fun d => d.parameters.length) = some 5 := by decide +kernel
def g_Shelf_cellAt (σ : ns_St) (a0 : Nat) (x1 : Int32) : Option (Int64 × ns_St) := grd (ns_kd a0 = 3) <| cl2 (g_Shelf_troubleAsRow σ a0) fun r10 σ9 => ite2 (r10 = 0) (ite2 (x1 < 0) (some ((0 : Int64), σ9)) (ite2 ((σ9.1 a0 1) ≤ x1) (some ((0 : Int64), σ9)) (ite2 ((40 : Int32) ≤ x1) (some ((0 : Int64), σ9)) (drf (σ9.2.2 a0 2) fun b15 => grd (ns_kd b15 = 11) <| grd (ns_in x1 (ns_ln b15)) <| some ((σ9.2.1 b15 (ns_ix x1)), σ9))))) (some ((0 : Int64), σ9))
theorem c_Shelf_cellAt (G : ns_G) (l : Launch) (σ : ns_St) (a0 : Nat) (x1 : Int32) {r : Int64} {σ' : ns_St} (hf : g_Shelf_cellAt σ a0 x1 = some (r, σ')) : ns_ok G l ⟨"NinthStep$Shelf", "cellAt", "(I)J"⟩ prog_5_method_4_code 2 (some .long) 1 20 0 0 [.ref (G.1 + a0), .int x1] ns_N σ (some (.long r)) ns_N σ' := by
  refine v_open (by decide) (Nat.le_of_ble_eq_true rfl) rfl ?_
  intro p e s m below meth c C hr _
  have C : ns_Cx G p s m _ meth c prog_5_method_4_code "NinthStep$Shelf" 2 := C
  unfold g_Shelf_cellAt at hf
  obtain ⟨hk_a0, hf⟩ := grd_e hf
  refine v_aload_n C 0 0 rfl 1 rfl (by decide +kernel) ?_
  obtain ⟨r10, σ9, hcr10, hf⟩ := cl2_e hf
  refine v_cV C 3 rfl (ns_kd_lt hk_a0 (by decide)) hk_a0 (by decide) [] [] (c_Shelf_troubleAsRow G l σ a0 hcr10) 22 0 tw_350 tw_378 tw_349 ts_3 tw_9 hd_Shelf_troubleAsRow rfl ⟨(Nat.le_of_ble_eq_true rfl), (Nat.le_of_ble_eq_true rfl)⟩ ⟨(Nat.le_of_ble_eq_true rfl), (Nat.le_of_ble_eq_true rfl)⟩ (Nat.le_of_ble_eq_true rfl) rfl 4 rfl (by decide +kernel) [.int r10] rfl ?_
  refine v_if_ne C 34 7 rfl (by decide +kernel) (fun h11 => ?_) (fun h11 => ?_)
  · have hf := ite2_f hf h11
    refine v_lconst C 0 (0) (by decide) 35 rfl (by decide +kernel) ?_
    obtain ⟨rfl, rfl⟩ := ret_e hf
    exact v_lret C hr (by decide +kernel)
  · have hf := ite2_t hf h11
    refine v_iload_n C 1 1 rfl 8 rfl (by decide +kernel) ?_
    refine v_if_lt C 34 11 rfl (by decide +kernel) (fun h12 => ?_) (fun h12 => ?_)
    · have hf := ite2_t hf h12
      refine v_lconst C 0 (0) (by decide) 35 rfl (by decide +kernel) ?_
      obtain ⟨rfl, rfl⟩ := ret_e hf
      exact v_lret C hr (by decide +kernel)
    · have hf := ite2_f hf h12
      refine v_iload_n C 1 1 rfl 12 rfl (by decide +kernel) ?_
      refine v_aload_n C 0 0 rfl 13 rfl (by decide +kernel) ?_
      refine v_getI C 3 1 rfl nin_3 (ns_kd_lt hk_a0 (by decide)) hk_a0 (by decide) (by decide) rfl 19 tw_276 rfl 16 rfl (by decide +kernel) ?_
      refine v_icmp_ge C 34 19 rfl (by decide +kernel) (fun h13 => ?_) (fun h13 => ?_)
      · have hf := ite2_t hf h13
        refine v_lconst C 0 (0) (by decide) 35 rfl (by decide +kernel) ?_
        obtain ⟨rfl, rfl⟩ := ret_e hf
        exact v_lret C hr (by decide +kernel)
      · have hf := ite2_f hf h13
        refine v_iload_n C 1 1 rfl 20 rfl (by decide +kernel) ?_
        refine v_bipush C (40) (40) (by decide) 22 rfl (by decide +kernel) ?_
        refine v_icmp_ge C 34 25 rfl (by decide +kernel) (fun h14 => ?_) (fun h14 => ?_)
        · have hf := ite2_t hf h14
          refine v_lconst C 0 (0) (by decide) 35 rfl (by decide +kernel) ?_
          obtain ⟨rfl, rfl⟩ := ret_e hf
          exact v_lret C hr (by decide +kernel)
        · have hf := ite2_f hf h14
          refine v_aload_n C 0 0 rfl 26 rfl (by decide +kernel) ?_
          obtain ⟨b15, hb15, hf⟩ := drf_e hf
          obtain ⟨hk_b15, hf⟩ := grd_e hf
          refine v_getR C 3 2 hb15 rfl nin_3 (ns_kd_lt hk_a0 (by decide)) hk_a0 (by decide) (by decide) rfl 15 tw_278 rfl 29 rfl (by decide +kernel) ?_
          refine v_iload_n C 1 1 rfl 30 rfl (by decide +kernel) ?_
          obtain ⟨hi16, hf⟩ := grd_e hf
          refine v_lald C (ns_kd_lt hk_b15 (by decide)) hk_b15 hi16 31 rfl (by decide +kernel) ?_
          refine v_goto C 35 (by decide +kernel) ?_
          obtain ⟨rfl, rfl⟩ := ret_e hf
          exact v_lret C hr (by decide +kernel)
theorem hd_Shelf_cellAt : (⟨"NinthStep$Shelf", "cellAt", "(I)J"⟩ : MethodName).cls = "NinthStep$Shelf" ∧ (⟨"NinthStep$Shelf", "cellAt", "(I)J"⟩ : MethodName).cls ≠ "java/lang/invoke/MethodHandle" ∧ (⟨"NinthStep$Shelf", "cellAt", "(I)J"⟩ : MethodName).cls ≠ "java/lang/invoke/VarHandle" ∧ (parseMethodDescriptor (⟨"NinthStep$Shelf", "cellAt", "(I)J"⟩ : MethodName).desc).map (fun d => d.parameters.length) = some 1 := by decide +kernel
def g_N_element (σ : ns_St) (a0 : Nat) (x1 : Int32) (x2 : Int32) : Option (Int64 × ns_St) := grd (ns_kd a0 = 8) <| cl2 (g_N_shelfAt σ a0 x1) fun r7 σ6 => onul r7 (some ((0 : Int64), σ6)) (fun b8 => grd (ns_kd b8 = 3) <| cl2 (g_Shelf_cellAt σ6 b8 x2) fun r10 σ9 => some (r10, σ9))
theorem c_N_element (G : ns_G) (l : Launch) (σ : ns_St) (a0 : Nat) (x1 : Int32) (x2 : Int32) {r : Int64} {σ' : ns_St} (hf : g_N_element σ a0 x1 x2 = some (r, σ')) : ns_ok G l ⟨"NinthStep", "element", "(II)J"⟩ prog_1_method_5_code 4 (some .long) 2 43 0 0 [.ref (G.1 + a0), .int x1, .int x2] ns_N σ (some (.long r)) ns_N σ' := by
  refine v_open (by decide) (Nat.le_of_ble_eq_true rfl) rfl ?_
  intro p e s m below meth c C hr _
  have C : ns_Cx G p s m _ meth c prog_1_method_5_code "NinthStep" 4 := C
  unfold g_N_element at hf
  obtain ⟨hk_a0, hf⟩ := grd_e hf
  refine v_aload_n C 0 0 rfl 1 rfl (by decide +kernel) ?_
  refine v_iload_n C 1 1 rfl 2 rfl (by decide +kernel) ?_
  obtain ⟨r7, σ6, hcr7, hf⟩ := cl2_e hf
  rcases r7 with _ | b8
  · have hf := onul_n hf
    refine v_cV C 8 rfl (ns_kd_lt hk_a0 (by decide)) hk_a0 (by decide) [.int x1] [] (c_N_shelfAt G l σ a0 x1 hcr7) 71 1 tw_331 tw_328 tw_330 ts_0 tw_1 hd_N_shelfAt rfl ⟨(Nat.le_of_ble_eq_true rfl), (Nat.le_of_ble_eq_true rfl)⟩ ⟨(Nat.le_of_ble_eq_true rfl), (Nat.le_of_ble_eq_true rfl)⟩ (Nat.le_of_ble_eq_true rfl) rfl 5 rfl (by decide +kernel) [.null] rfl ?_
    refine v_astore_nN C 3 [(3, .null), (0, .ref (G.1 + a0)), (1, .int x1), (2, .int x2)] (by decide) rfl 6 rfl (by decide +kernel) ?_
    refine v_aload_nN C 3 0 rfl 7 rfl (by decide +kernel) ?_
    refine v_ifnonnullN C 14 10 rfl (by decide +kernel) ?_
    refine v_lconst C 0 (0) (by decide) 11 rfl (by decide +kernel) ?_
    refine v_goto C 19 (by decide +kernel) ?_
    obtain ⟨rfl, rfl⟩ := ret_e hf
    exact v_lret C hr (by decide +kernel)
  · have hf := onul_s hf
    obtain ⟨hk_b8, hf⟩ := grd_e hf
    refine v_cV C 8 rfl (ns_kd_lt hk_a0 (by decide)) hk_a0 (by decide) [.int x1] [] (c_N_shelfAt G l σ a0 x1 hcr7) 71 1 tw_331 tw_328 tw_330 ts_0 tw_1 hd_N_shelfAt rfl ⟨(Nat.le_of_ble_eq_true rfl), (Nat.le_of_ble_eq_true rfl)⟩ ⟨(Nat.le_of_ble_eq_true rfl), (Nat.le_of_ble_eq_true rfl)⟩ (Nat.le_of_ble_eq_true rfl) rfl 5 rfl (by decide +kernel) [.ref (G.1 + b8)] rfl ?_
    refine v_astore_n C 3 [(3, .ref (G.1 + b8)), (0, .ref (G.1 + a0)), (1, .int x1), (2, .int x2)] (by decide) rfl 6 rfl (by decide +kernel) ?_
    refine v_aload_n C 3 0 rfl 7 rfl (by decide +kernel) ?_
    refine v_ifnonnull C 14 (by decide +kernel) ?_
    refine v_aload_n C 3 0 rfl 15 rfl (by decide +kernel) ?_
    refine v_iload_n C 2 3 rfl 16 rfl (by decide +kernel) ?_
    obtain ⟨r10, σ9, hcr10, hf⟩ := cl2_e hf
    refine v_cVN C 3 rfl (ns_kd_lt hk_b8 (by decide)) hk_b8 (by decide) [.int x2] [] (c_Shelf_cellAt G l σ6 b8 x2 hcr10) 113 1 tw_377 tw_374 tw_376 ts_6 tw_9 hd_Shelf_cellAt rfl ⟨(Nat.le_of_ble_eq_true rfl), (Nat.le_of_ble_eq_true rfl)⟩ ⟨(Nat.le_of_ble_eq_true rfl), (Nat.le_of_ble_eq_true rfl)⟩ (Nat.le_of_ble_eq_true rfl) rfl 19 rfl (by decide +kernel) [.long r10] rfl ?_
    obtain ⟨rfl, rfl⟩ := ret_e hf
    exact v_lret C hr (by decide +kernel)
theorem hd_N_element : (⟨"NinthStep", "element", "(II)J"⟩ : MethodName).cls = "NinthStep" ∧ (⟨"NinthStep", "element", "(II)J"⟩ : MethodName).cls ≠ "java/lang/invoke/MethodHandle" ∧ (⟨"NinthStep", "element", "(II)J"⟩ : MethodName).cls ≠ "java/lang/invoke/VarHandle" ∧ (parseMethodDescriptor (⟨"NinthStep", "element", "(II)J"⟩ : MethodName).desc).map (fun d => d.parameters.length) = some 2 := by decide +kernel
def g_N_holds (σ : ns_St) (a0 : Nat) (x1 : Int32) : Option (Int32 × ns_St) := grd (ns_kd a0 = 8) <| cl2 (g_N_shelfAt σ a0 x1) fun r5 σ4 => onul r5 (some ((-1 : Int32), σ4)) (fun b6 => grd (ns_kd b6 = 3) <| some ((σ4.1 b6 0), σ4))
theorem c_N_holds (G : ns_G) (l : Launch) (σ : ns_St) (a0 : Nat) (x1 : Int32) {r : Int32} {σ' : ns_St} (hf : g_N_holds σ a0 x1 = some (r, σ')) : ns_ok G l ⟨"NinthStep", "holds", "(I)I"⟩ prog_1_method_6_code 3 (some .int) 2 43 0 0 [.ref (G.1 + a0), .int x1] ns_N σ (some (.int r)) ns_N σ' := by
  refine v_open (by decide) (Nat.le_of_ble_eq_true rfl) rfl ?_
  intro p e s m below meth c C hr _
  have C : ns_Cx G p s m _ meth c prog_1_method_6_code "NinthStep" 3 := C
  unfold g_N_holds at hf
  obtain ⟨hk_a0, hf⟩ := grd_e hf
  refine v_aload_n C 0 0 rfl 1 rfl (by decide +kernel) ?_
  refine v_iload_n C 1 1 rfl 2 rfl (by decide +kernel) ?_
  obtain ⟨r5, σ4, hcr5, hf⟩ := cl2_e hf
  rcases r5 with _ | b6
  · have hf := onul_n hf
    refine v_cV C 8 rfl (ns_kd_lt hk_a0 (by decide)) hk_a0 (by decide) [.int x1] [] (c_N_shelfAt G l σ a0 x1 hcr5) 71 1 tw_331 tw_328 tw_330 ts_0 tw_1 hd_N_shelfAt rfl ⟨(Nat.le_of_ble_eq_true rfl), (Nat.le_of_ble_eq_true rfl)⟩ ⟨(Nat.le_of_ble_eq_true rfl), (Nat.le_of_ble_eq_true rfl)⟩ (Nat.le_of_ble_eq_true rfl) rfl 5 rfl (by decide +kernel) [.null] rfl ?_
    refine v_astore_nN C 2 [(2, .null), (0, .ref (G.1 + a0)), (1, .int x1)] (by decide) rfl 6 rfl (by decide +kernel) ?_
    refine v_aload_nN C 2 0 rfl 7 rfl (by decide +kernel) ?_
    refine v_ifnonnullN C 14 10 rfl (by decide +kernel) ?_
    refine v_iconst C (-1) (-1) (by decide) 11 rfl (by decide +kernel) ?_
    refine v_goto C 18 (by decide +kernel) ?_
    obtain ⟨rfl, rfl⟩ := ret_e hf
    exact v_iret C hr (by decide +kernel)
  · have hf := onul_s hf
    obtain ⟨hk_b6, hf⟩ := grd_e hf
    refine v_cV C 8 rfl (ns_kd_lt hk_a0 (by decide)) hk_a0 (by decide) [.int x1] [] (c_N_shelfAt G l σ a0 x1 hcr5) 71 1 tw_331 tw_328 tw_330 ts_0 tw_1 hd_N_shelfAt rfl ⟨(Nat.le_of_ble_eq_true rfl), (Nat.le_of_ble_eq_true rfl)⟩ ⟨(Nat.le_of_ble_eq_true rfl), (Nat.le_of_ble_eq_true rfl)⟩ (Nat.le_of_ble_eq_true rfl) rfl 5 rfl (by decide +kernel) [.ref (G.1 + b6)] rfl ?_
    refine v_astore_n C 2 [(2, .ref (G.1 + b6)), (0, .ref (G.1 + a0)), (1, .int x1)] (by decide) rfl 6 rfl (by decide +kernel) ?_
    refine v_aload_n C 2 0 rfl 7 rfl (by decide +kernel) ?_
    refine v_ifnonnull C 14 (by decide +kernel) ?_
    refine v_aload_n C 2 0 rfl 15 rfl (by decide +kernel) ?_
    refine v_getIN C 3 0 rfl nin_3 (ns_kd_lt hk_b6 (by decide)) hk_b6 (by decide) (by decide) rfl 117 tw_275 rfl 18 rfl (by decide +kernel) ?_
    obtain ⟨rfl, rfl⟩ := ret_e hf
    exact v_iret C hr (by decide +kernel)
theorem hd_N_holds : (⟨"NinthStep", "holds", "(I)I"⟩ : MethodName).cls = "NinthStep" ∧ (⟨"NinthStep", "holds", "(I)I"⟩ : MethodName).cls ≠ "java/lang/invoke/MethodHandle" ∧ (⟨"NinthStep", "holds", "(I)I"⟩ : MethodName).cls ≠ "java/lang/invoke/VarHandle" ∧ (parseMethodDescriptor (⟨"NinthStep", "holds", "(I)I"⟩ : MethodName).desc).map (fun d => d.parameters.length) = some 1 := by decide +kernel
def g_World_muleAt (σ : ns_St) (a0 : Nat) (x1 : Int32) : Option (Option Nat × ns_St) := grd (ns_kd a0 = 7) <| ite2 (x1 < 0) (some (none, σ)) (ite2 ((σ.1 a0 2) ≤ x1) (some (none, σ)) (ite2 ((6 : Int32) ≤ x1) (some (none, σ)) (drf (σ.2.2 a0 1) fun b10 => grd (ns_kd b10 = 12) <| grd (ns_in x1 (ns_ln b10)) <| drf (σ.2.2 b10 (ns_ix x1)) fun b12 => grd (ns_kd b12 = 2) <| some ((some b12), σ))))
theorem c_World_muleAt (G : ns_G) (l : Launch) (σ : ns_St) (a0 : Nat) (x1 : Int32) {r : Option Nat} {σ' : ns_St} (hf : g_World_muleAt σ a0 x1 = some (r, σ')) : ns_ok G l ⟨"NinthStep$World", "muleAt", "(I)LNinthStep$Mule;"⟩ prog_9_method_3_code 2 (some (.object "NinthStep$Mule")) 0 0 0 0 [.ref (G.1 + a0), .int x1] ns_N σ (some (va_rf (ns_rf G.1 r))) ns_N σ' := by
  refine v_open (by decide) (Nat.le_of_ble_eq_true rfl) rfl ?_
  intro p e s m below meth c C hr _
  have C : ns_Cx G p s m _ meth c prog_9_method_3_code "NinthStep$World" 2 := C
  unfold g_World_muleAt at hf
  obtain ⟨hk_a0, hf⟩ := grd_e hf
  refine v_iload_n C 1 1 rfl 1 rfl (by decide +kernel) ?_
  refine v_if_lt C 27 4 rfl (by decide +kernel) (fun h7 => ?_) (fun h7 => ?_)
  · have hf := ite2_t hf h7
    refine v_null C 28 rfl (by decide +kernel) ?_
    obtain ⟨rfl, rfl⟩ := ret_e hf
    exact v_aret C hr (x := none) (by decide +kernel)
  · have hf := ite2_f hf h7
    refine v_iload_n C 1 1 rfl 5 rfl (by decide +kernel) ?_
    refine v_aload_n C 0 0 rfl 6 rfl (by decide +kernel) ?_
    refine v_getI C 7 2 rfl nin_7 (ns_kd_lt hk_a0 (by decide)) hk_a0 (by decide) (by decide) rfl 36 tw_133 rfl 9 rfl (by decide +kernel) ?_
    refine v_icmp_ge C 27 12 rfl (by decide +kernel) (fun h8 => ?_) (fun h8 => ?_)
    · have hf := ite2_t hf h8
      refine v_null C 28 rfl (by decide +kernel) ?_
      obtain ⟨rfl, rfl⟩ := ret_e hf
      exact v_aret C hr (x := none) (by decide +kernel)
    · have hf := ite2_f hf h8
      refine v_iload_n C 1 1 rfl 13 rfl (by decide +kernel) ?_
      refine v_bipush C (6) (6) (by decide) 15 rfl (by decide +kernel) ?_
      refine v_icmp_ge C 27 18 rfl (by decide +kernel) (fun h9 => ?_) (fun h9 => ?_)
      · have hf := ite2_t hf h9
        refine v_null C 28 rfl (by decide +kernel) ?_
        obtain ⟨rfl, rfl⟩ := ret_e hf
        exact v_aret C hr (x := none) (by decide +kernel)
      · have hf := ite2_f hf h9
        refine v_aload_n C 0 0 rfl 19 rfl (by decide +kernel) ?_
        obtain ⟨b10, hb10, hf⟩ := drf_e hf
        obtain ⟨hk_b10, hf⟩ := grd_e hf
        refine v_getR C 7 1 hb10 rfl nin_7 (ns_kd_lt hk_a0 (by decide)) hk_a0 (by decide) (by decide) rfl 20 tw_129 rfl 22 rfl (by decide +kernel) ?_
        refine v_iload_n C 1 1 rfl 23 rfl (by decide +kernel) ?_
        obtain ⟨hi11, hf⟩ := grd_e hf
        obtain ⟨b12, hb12, hf⟩ := drf_e hf
        obtain ⟨hk_b12, hf⟩ := grd_e hf
        refine v_aald C 12 (by decide) (ns_kd_lt hk_b10 (by decide)) hk_b10 hi11 hb12 24 rfl (by decide +kernel) ?_
        refine v_goto C 28 (by decide +kernel) ?_
        obtain ⟨rfl, rfl⟩ := ret_e hf
        exact v_aret C hr (x := (some b12)) (by decide +kernel)
theorem hd_World_muleAt : (⟨"NinthStep$World", "muleAt", "(I)LNinthStep$Mule;"⟩ : MethodName).cls = "NinthStep$World" ∧ (⟨"NinthStep$World", "muleAt", "(I)LNinthStep$Mule;"⟩ : MethodName).cls ≠ "java/lang/invoke/MethodHandle" ∧ (⟨"NinthStep$World", "muleAt", "(I)LNinthStep$Mule;"⟩ : MethodName).cls ≠ "java/lang/invoke/VarHandle" ∧ (parseMethodDescriptor (⟨"NinthStep$World", "muleAt", "(I)LNinthStep$Mule;"⟩ : MethodName).desc).map (fun d => d.parameters.length) = some 1 := by decide +kernel
def g_N_show_33  (σ : ns_St) (x2 : Int32) (a3 : Nat) : Option (Int32 × ns_St) := ite2 (x2 = (-1 : Int32)) (bnd (ns_pI σ a3 0 (-1 : Int32)) fun σ18 => some ((1 : Int32), σ18)) (bnd (ns_pI σ a3 0 ((10 : Int32) + x2)) fun σ17 => some ((1 : Int32), σ17))
def g_N_show (σ : ns_St) (a0 : Nat) (x1 : Int32) (x2 : Int32) : Option (Int32 × ns_St) := grd (ns_kd a0 = 8) <| cl2 (g_N_shelfAt σ a0 x1) fun r20 σ19 => onul r20 (cl2 (g_N_refuse σ19 a0 (-2 : Int32)) fun r23 σ22 => some (r23, σ22)) (fun b21 => grd (ns_kd b21 = 3) <| ite2 (x2 = (-1 : Int32)) (g_N_show_33 σ19 x2 b21) (drf (σ19.2.2 a0 0) fun b25 => grd (ns_kd b25 = 7) <| cl2 (g_World_muleAt σ19 b25 x2) fun r27 σ26 => onul r27 (cl2 (g_N_refuse σ26 a0 (-2 : Int32)) fun r30 σ29 => some (r30, σ29)) (fun b28 => grd (ns_kd b28 = 2) <| g_N_show_33 σ26 x2 b21)))
theorem t_N_show_33 (G : ns_G) (l : Launch) {p : Program} {e : Env} {s : State} {m : MethodId} {args : Array Value} {below : List Frame} {meth : Method} {c : Code} (C : ns_Cx G p s m args meth c prog_1_method_7_code "NinthStep" 4) (hr : meth.sig.returnType = (some .int)) {r : Int32} {σ' : ns_St}  (σ : ns_St) (x2 : Int32) (a3 : Nat) (hk_a3 : ns_kd a3 = 3) (hf : g_N_show_33 σ x2 a3 = some (r, σ')) : VV G p l e { frames := 2, cells := 0, slots := 0, locals := 44 } s m args below meth c 4 0 0 (MQ below (ns_Qc G (some (.int r)) ns_N σ') args s 0 0 (ns_A G)) ns_N σ 33 [(2, .int x2), (3, .ref (G.1 + a3))] [] := by
  unfold g_N_show_33 at hf
  refine v_aload_n C 3 1 rfl 34 rfl (by decide +kernel) ?_
  refine v_iload_n C 2 0 rfl 35 rfl (by decide +kernel) ?_
  refine v_iconst C (-1) (-1) (by decide) 36 rfl (by decide +kernel) ?_
  refine v_icmp_ne C 43 39 rfl (by decide +kernel) (fun h16 => ?_) (fun h16 => ?_)
  · have hf := ite2_f hf h16
    refine v_bipush C (10) (10) (by decide) 45 rfl (by decide +kernel) ?_
    refine v_iload_n C 2 0 rfl 46 rfl (by decide +kernel) ?_
    refine v_iadd C 47 rfl (by decide +kernel) ?_
    obtain ⟨σ17, hσ17, hf⟩ := bnd_e hf
    refine v_putIN C 3 0 hσ17 rfl nin_3 ny_3 nty_3 nnm_3 (ns_kd_lt hk_a3 (by decide)) hk_a3 (by decide) (by decide) rfl rfl rfl rfl 117 tw_275 rfl 50 rfl (by decide +kernel) ?_
    refine v_iconst C (1) (1) (by decide) 51 rfl (by decide +kernel) ?_
    obtain ⟨rfl, rfl⟩ := ret_e hf
    exact v_iret C hr (by decide +kernel)
  · have hf := ite2_t hf h16
    refine v_iconst C (-1) (-1) (by decide) 40 rfl (by decide +kernel) ?_
    refine v_goto C 47 (by decide +kernel) ?_
    obtain ⟨σ18, hσ18, hf⟩ := bnd_e hf
    refine v_putIN C 3 0 hσ18 rfl nin_3 ny_3 nty_3 nnm_3 (ns_kd_lt hk_a3 (by decide)) hk_a3 (by decide) (by decide) rfl rfl rfl rfl 117 tw_275 rfl 50 rfl (by decide +kernel) ?_
    refine v_iconst C (1) (1) (by decide) 51 rfl (by decide +kernel) ?_
    obtain ⟨rfl, rfl⟩ := ret_e hf
    exact v_iret C hr (by decide +kernel)
theorem c_N_show (G : ns_G) (l : Launch) (σ : ns_St) (a0 : Nat) (x1 : Int32) (x2 : Int32) {r : Int32} {σ' : ns_St} (hf : g_N_show σ a0 x1 x2 = some (r, σ')) : ns_ok G l ⟨"NinthStep", "show", "(II)I"⟩ prog_1_method_7_code 4 (some .int) 2 44 0 0 [.ref (G.1 + a0), .int x1, .int x2] ns_N σ (some (.int r)) ns_N σ' := by
  refine v_open (by decide) (Nat.le_of_ble_eq_true rfl) rfl ?_
  intro p e s m below meth c C hr _
  have C : ns_Cx G p s m _ meth c prog_1_method_7_code "NinthStep" 4 := C
  unfold g_N_show at hf
  obtain ⟨hk_a0, hf⟩ := grd_e hf
  refine v_aload_n C 0 0 rfl 1 rfl (by decide +kernel) ?_
  refine v_iload_n C 1 1 rfl 2 rfl (by decide +kernel) ?_
  obtain ⟨r20, σ19, hcr20, hf⟩ := cl2_e hf
  rcases r20 with _ | b21
  · have hf := onul_n hf
    refine v_cV C 8 rfl (ns_kd_lt hk_a0 (by decide)) hk_a0 (by decide) [.int x1] [] (c_N_shelfAt G l σ a0 x1 hcr20) 71 1 tw_331 tw_328 tw_330 ts_0 tw_1 hd_N_shelfAt rfl ⟨(Nat.le_of_ble_eq_true rfl), (Nat.le_of_ble_eq_true rfl)⟩ ⟨(Nat.le_of_ble_eq_true rfl), (Nat.le_of_ble_eq_true rfl)⟩ (Nat.le_of_ble_eq_true rfl) rfl 5 rfl (by decide +kernel) [.null] rfl ?_
    refine v_astore_nN C 3 [(3, .null), (0, .ref (G.1 + a0)), (1, .int x1), (2, .int x2)] (by decide) rfl 6 rfl (by decide +kernel) ?_
    refine v_aload_nN C 3 0 rfl 7 rfl (by decide +kernel) ?_
    refine v_ifnullN C 26 (by decide +kernel) ?_
    refine v_aload_n C 0 1 rfl 27 rfl (by decide +kernel) ?_
    refine v_bipush C (-2) (-2) (by decide) 29 rfl (by decide +kernel) ?_
    obtain ⟨r23, σ22, hcr23, hf⟩ := cl2_e hf
    refine v_cV C 8 rfl (ns_kd_lt hk_a0 (by decide)) hk_a0 (by decide) [.int (-2 : Int32)] [] (c_N_refuse G l σ19 a0 (-2 : Int32) hcr23) 79 1 tw_338 tw_335 tw_337 ts_1 tw_1 hd_N_refuse rfl ⟨(Nat.le_of_ble_eq_true rfl), (Nat.le_of_ble_eq_true rfl)⟩ ⟨(Nat.le_of_ble_eq_true rfl), (Nat.le_of_ble_eq_true rfl)⟩ (Nat.le_of_ble_eq_true rfl) rfl 32 rfl (by decide +kernel) [.int r23] rfl ?_
    obtain ⟨rfl, rfl⟩ := ret_e hf
    exact v_iret C hr (by decide +kernel)
  · have hf := onul_s hf
    obtain ⟨hk_b21, hf⟩ := grd_e hf
    refine v_cV C 8 rfl (ns_kd_lt hk_a0 (by decide)) hk_a0 (by decide) [.int x1] [] (c_N_shelfAt G l σ a0 x1 hcr20) 71 1 tw_331 tw_328 tw_330 ts_0 tw_1 hd_N_shelfAt rfl ⟨(Nat.le_of_ble_eq_true rfl), (Nat.le_of_ble_eq_true rfl)⟩ ⟨(Nat.le_of_ble_eq_true rfl), (Nat.le_of_ble_eq_true rfl)⟩ (Nat.le_of_ble_eq_true rfl) rfl 5 rfl (by decide +kernel) [.ref (G.1 + b21)] rfl ?_
    refine v_astore_n C 3 [(3, .ref (G.1 + b21)), (0, .ref (G.1 + a0)), (1, .int x1), (2, .int x2)] (by decide) rfl 6 rfl (by decide +kernel) ?_
    refine v_aload_n C 3 0 rfl 7 rfl (by decide +kernel) ?_
    refine v_ifnull C 26 10 rfl (by decide +kernel) ?_
    refine v_iload_n C 2 3 rfl 11 rfl (by decide +kernel) ?_
    refine v_iconst C (-1) (-1) (by decide) 12 rfl (by decide +kernel) ?_
    refine v_icmp_eq C 33 15 rfl (by decide +kernel) (fun h24 => ?_) (fun h24 => ?_)
    · have hf := ite2_t hf h24
      refine v_sub [3, 0] rfl ?_
      exact t_N_show_33 G l C hr  σ19 x2 b21 hk_b21 hf
    · have hf := ite2_f hf h24
      refine v_aload_n C 0 1 rfl 16 rfl (by decide +kernel) ?_
      obtain ⟨b25, hb25, hf⟩ := drf_e hf
      obtain ⟨hk_b25, hf⟩ := grd_e hf
      refine v_getR C 8 0 hb25 rfl nin_8 (ns_kd_lt hk_a0 (by decide)) hk_a0 (by decide) (by decide) rfl 12 tw_287 rfl 19 rfl (by decide +kernel) ?_
      refine v_iload_n C 2 3 rfl 20 rfl (by decide +kernel) ?_
      obtain ⟨r27, σ26, hcr27, hf⟩ := cl2_e hf
      rcases r27 with _ | b28
      · have hf := onul_n hf
        refine v_cVN C 7 rfl (ns_kd_lt hk_b25 (by decide)) hk_b25 (by decide) [.int x2] [] (c_World_muleAt G l σ19 b25 x2 hcr27) 120 1 tw_390 tw_387 tw_389 ts_7 tw_2 hd_World_muleAt rfl ⟨(Nat.le_of_ble_eq_true rfl), (Nat.le_of_ble_eq_true rfl)⟩ ⟨(Nat.le_of_ble_eq_true rfl), (Nat.le_of_ble_eq_true rfl)⟩ (Nat.le_of_ble_eq_true rfl) rfl 23 rfl (by decide +kernel) [.null] rfl ?_
        refine v_ifnonnullN C 33 26 rfl (by decide +kernel) ?_
        refine v_aload_n C 0 1 rfl 27 rfl (by decide +kernel) ?_
        refine v_bipush C (-2) (-2) (by decide) 29 rfl (by decide +kernel) ?_
        obtain ⟨r30, σ29, hcr30, hf⟩ := cl2_e hf
        refine v_cV C 8 rfl (ns_kd_lt hk_a0 (by decide)) hk_a0 (by decide) [.int (-2 : Int32)] [] (c_N_refuse G l σ26 a0 (-2 : Int32) hcr30) 79 1 tw_338 tw_335 tw_337 ts_1 tw_1 hd_N_refuse rfl ⟨(Nat.le_of_ble_eq_true rfl), (Nat.le_of_ble_eq_true rfl)⟩ ⟨(Nat.le_of_ble_eq_true rfl), (Nat.le_of_ble_eq_true rfl)⟩ (Nat.le_of_ble_eq_true rfl) rfl 32 rfl (by decide +kernel) [.int r30] rfl ?_
        obtain ⟨rfl, rfl⟩ := ret_e hf
        exact v_iret C hr (by decide +kernel)
      · have hf := onul_s hf
        obtain ⟨hk_b28, hf⟩ := grd_e hf
        refine v_cVN C 7 rfl (ns_kd_lt hk_b25 (by decide)) hk_b25 (by decide) [.int x2] [] (c_World_muleAt G l σ19 b25 x2 hcr27) 120 1 tw_390 tw_387 tw_389 ts_7 tw_2 hd_World_muleAt rfl ⟨(Nat.le_of_ble_eq_true rfl), (Nat.le_of_ble_eq_true rfl)⟩ ⟨(Nat.le_of_ble_eq_true rfl), (Nat.le_of_ble_eq_true rfl)⟩ (Nat.le_of_ble_eq_true rfl) rfl 23 rfl (by decide +kernel) [.ref (G.1 + b28)] rfl ?_
        refine v_ifnonnull C 33 (by decide +kernel) ?_
        refine v_sub [3, 0] rfl ?_
        exact t_N_show_33 G l C hr  σ26 x2 b21 hk_b21 hf
theorem hd_N_show : (⟨"NinthStep", "show", "(II)I"⟩ : MethodName).cls = "NinthStep" ∧ (⟨"NinthStep", "show", "(II)I"⟩ : MethodName).cls ≠ "java/lang/invoke/MethodHandle" ∧ (⟨"NinthStep", "show", "(II)I"⟩ : MethodName).cls ≠ "java/lang/invoke/VarHandle" ∧ (parseMethodDescriptor (⟨"NinthStep", "show", "(II)I"⟩ : MethodName).desc).map (fun d => d.parameters.length) = some 2 := by decide +kernel
def g_N_isUnder_4  : Nat → ns_St → Int32 → Int32 → Int32 → Option (Int32 × ns_St)
  | 0, _, _, _, _ => none
  | f + 1, σ, x1, x2, x3 => ite2 ((6 : Int32) ≤ x3) (some ((0 : Int32), σ)) (ite2 (x2 < 0) (some ((0 : Int32), σ)) (ite2 ((6 : Int32) ≤ x2) (some ((0 : Int32), σ)) (ite2 (x2 = x1) (some ((1 : Int32), σ)) (grd (ns_in x2 6) <| bnd (ns_abv (ns_ix x2)) fun z13 => bnd (x3 + 1) fun z14 => (g_N_isUnder_4 f) σ x1 z13 z14))))
def g_N_isUnder (σ : ns_St) (x0 : Int32) (x1 : Int32) : Option (Int32 × ns_St) := g_N_isUnder_4 ns_F σ x1 x0 (0 : Int32)
theorem t_N_isUnder_4 (G : ns_G) (l : Launch) {p : Program} {e : Env} {s : State} {m : MethodId} {args : Array Value} {below : List Frame} {meth : Method} {c : Code} (C : ns_Cx G p s m args meth c prog_1_method_68_code "NinthStep" 4) (hr : meth.sig.returnType = (some .boolean)) {r : Int32} {σ' : ns_St}  : ∀ (f : Nat) (σ : ns_St) (x1 : Int32) (x2 : Int32) (x3 : Int32) , g_N_isUnder_4 f σ x1 x2 x3 = some (r, σ') → VV G p l e { frames := 0, cells := 0, slots := 0, locals := 0 } s m args below meth c 4 0 0 (MQ below (ns_Qc G (some (.int r)) ns_N σ') args s 0 0 (ns_A G)) ns_N σ 4 [(1, .int x1), (2, .int x2), (3, .int x3)] [] := by
  intro f
  induction f with
  | zero =>
    intro σ x1 x2 x3 hf
    cases hf
  | succ f ih =>
    intro σ x1 x2 x3 hf
    rw [g_N_isUnder_4] at hf
    refine v_iload_n C 3 2 rfl 5 rfl (by decide +kernel) ?_
    refine v_bipush C (6) (6) (by decide) 7 rfl (by decide +kernel) ?_
    refine v_icmp_ge C 39 10 rfl (by decide +kernel) (fun h8 => ?_) (fun h8 => ?_)
    · have hf := ite2_t hf h8
      refine v_iconst C (0) (0) (by decide) 40 rfl (by decide +kernel) ?_
      obtain ⟨rfl, rfl⟩ := ret_e hf
      exact v_zret C hr rfl (by decide +kernel)
    · have hf := ite2_f hf h8
      refine v_iload_n C 2 1 rfl 11 rfl (by decide +kernel) ?_
      refine v_if_lt C 39 14 rfl (by decide +kernel) (fun h9 => ?_) (fun h9 => ?_)
      · have hf := ite2_t hf h9
        refine v_iconst C (0) (0) (by decide) 40 rfl (by decide +kernel) ?_
        obtain ⟨rfl, rfl⟩ := ret_e hf
        exact v_zret C hr rfl (by decide +kernel)
      · have hf := ite2_f hf h9
        refine v_iload_n C 2 1 rfl 15 rfl (by decide +kernel) ?_
        refine v_bipush C (6) (6) (by decide) 17 rfl (by decide +kernel) ?_
        refine v_icmp_ge C 39 20 rfl (by decide +kernel) (fun h10 => ?_) (fun h10 => ?_)
        · have hf := ite2_t hf h10
          refine v_iconst C (0) (0) (by decide) 40 rfl (by decide +kernel) ?_
          obtain ⟨rfl, rfl⟩ := ret_e hf
          exact v_zret C hr rfl (by decide +kernel)
        · have hf := ite2_f hf h10
          refine v_iload_n C 2 1 rfl 21 rfl (by decide +kernel) ?_
          refine v_iload_n C 1 0 rfl 22 rfl (by decide +kernel) ?_
          refine v_icmp_ne C 27 25 rfl (by decide +kernel) (fun h11 => ?_) (fun h11 => ?_)
          · have hf := ite2_f hf h11
            refine v_getsX C 379 tw_398 30 rfl (by decide +kernel) ?_
            refine v_iload_n C 2 1 rfl 31 rfl (by decide +kernel) ?_
            obtain ⟨hi12, hf⟩ := grd_e hf
            refine v_xald C hi12 32 rfl (by decide +kernel) ?_
            obtain ⟨z13, hz13, hf⟩ := bnd_e hf
            refine v_nmI hz13 ?_
            refine v_istore_n C 2 [(2, .int z13), (1, .int x1), (3, .int x3)] (by decide) rfl 33 rfl (by decide +kernel) ?_
            obtain ⟨z14, hz14, hf⟩ := bnd_e hf
            refine v_iinc C 3 (1) 2 z14 rfl (by rw [hz14]; rfl) [(3, .int z14), (2, .int z13), (1, .int x1)] (by decide) rfl 36 rfl (by decide +kernel) ?_
            refine v_goto C 4 (by decide +kernel) ?_
            refine v_sub [2, 1, 0] rfl ?_
            exact ih σ x1 z13 z14 hf
          · have hf := ite2_t hf h11
            refine v_iconst C (1) (1) (by decide) 26 rfl (by decide +kernel) ?_
            obtain ⟨rfl, rfl⟩ := ret_e hf
            exact v_zret C hr rfl (by decide +kernel)
theorem c_N_isUnder (G : ns_G) (l : Launch) (σ : ns_St) (x0 : Int32) (x1 : Int32) {r : Int32} {σ' : ns_St} (hf : g_N_isUnder σ x0 x1 = some (r, σ')) : ns_ok G l ⟨"NinthStep", "isUnder", "(II)Z"⟩ prog_1_method_68_code 4 (some .boolean) 0 0 0 0 [.int x0, .int x1] ns_N σ (some (.int r)) ns_N σ' := by
  refine v_open (by decide) (Nat.le_of_ble_eq_true rfl) rfl ?_
  intro p e s m below meth c C hr _
  have C : ns_Cx G p s m _ meth c prog_1_method_68_code "NinthStep" 4 := C
  unfold g_N_isUnder at hf
  refine v_iload_n C 0 0 rfl 1 rfl (by decide +kernel) ?_
  refine v_istore_n C 2 [(2, .int x0), (0, .int x0), (1, .int x1)] (by decide) rfl 2 rfl (by decide +kernel) ?_
  refine v_iconst C (0) (0) (by decide) 3 rfl (by decide +kernel) ?_
  refine v_istore_n C 3 [(3, .int (0 : Int32)), (2, .int x0), (0, .int x0), (1, .int x1)] (by decide) rfl 4 rfl (by decide +kernel) ?_
  refine v_sub [3, 1, 0] rfl ?_
  exact t_N_isUnder_4 G l C hr  ns_F σ x1 x0 (0 : Int32) hf
theorem hd_N_isUnder : (⟨"NinthStep", "isUnder", "(II)Z"⟩ : MethodName).cls ≠ "java/lang/invoke/MethodHandle" ∧ (⟨"NinthStep", "isUnder", "(II)Z"⟩ : MethodName).cls ≠ "java/lang/invoke/VarHandle" ∧ (parseMethodDescriptor (⟨"NinthStep", "isUnder", "(II)Z"⟩ : MethodName).desc).map (fun d => d.parameters.length) = some 2 := by decide +kernel
def g_N_above (σ : ns_St) (x0 : Int32) : Option (Int64 × ns_St) := some (((-2 : Int64) <<< (x0.toInt64 &&& 63)), σ)
theorem c_N_above (G : ns_G) (l : Launch) (σ : ns_St) (x0 : Int32) {r : Int64} {σ' : ns_St} (hf : g_N_above σ x0 = some (r, σ')) : ns_ok G l ⟨"NinthStep", "above", "(I)J"⟩ prog_1_method_71_code 1 (some .long) 0 0 0 0 [.int x0] ns_N σ (some (.long r)) ns_N σ' := by
  refine v_open (by decide) (Nat.le_of_ble_eq_true rfl) rfl ?_
  intro p e s m below meth c C hr _
  have C : ns_Cx G p s m _ meth c prog_1_method_71_code "NinthStep" 1 := C
  unfold g_N_above at hf
  refine v_ldc2 C 382 (-2) tw_407 3 rfl (by decide +kernel) ?_
  refine v_iload_n C 0 0 rfl 4 rfl (by decide +kernel) ?_
  refine v_lshl C 5 rfl (by decide +kernel) ?_
  obtain ⟨rfl, rfl⟩ := ret_e hf
  exact v_lret C hr (by decide +kernel)
theorem hd_N_above : (⟨"NinthStep", "above", "(I)J"⟩ : MethodName).cls ≠ "java/lang/invoke/MethodHandle" ∧ (⟨"NinthStep", "above", "(I)J"⟩ : MethodName).cls ≠ "java/lang/invoke/VarHandle" ∧ (parseMethodDescriptor (⟨"NinthStep", "above", "(I)J"⟩ : MethodName).desc).map (fun d => d.parameters.length) = some 1 := by decide +kernel
def g_N_firstOf (σ : ns_St) (x0 : Int64) : Option (Int32 × ns_St) := ite2 ((lg_cmp x0 (0 : Int64)) = 0) (some ((-1 : Int32), σ)) (cl2 (g_Long_numberOfTrailingZeros σ x0) fun r6 σ5 => some (r6, σ5))
theorem c_N_firstOf (G : ns_G) (l : Launch) (σ : ns_St) (x0 : Int64) {r : Int32} {σ' : ns_St} (hf : g_N_firstOf σ x0 = some (r, σ')) : ns_ok G l ⟨"NinthStep", "firstOf", "(J)I"⟩ prog_1_method_73_code 2 (some .int) 2 43 0 0 [.long x0] ns_N σ (some (.int r)) ns_N σ' := by
  refine v_open (by decide) (Nat.le_of_ble_eq_true rfl) rfl ?_
  intro p e s m below meth c C hr _
  have C : ns_Cx G p s m _ meth c prog_1_method_73_code "NinthStep" 2 := C
  unfold g_N_firstOf at hf
  refine v_lload_n C 0 0 rfl 1 rfl (by decide +kernel) ?_
  refine v_lconst C 0 (0) (by decide) 2 rfl (by decide +kernel) ?_
  refine v_lcmp C 3 rfl (by decide +kernel) ?_
  refine v_if_ne C 10 6 rfl (by decide +kernel) (fun h4 => ?_) (fun h4 => ?_)
  · have hf := ite2_f hf h4
    refine v_lload_n C 0 0 rfl 11 rfl (by decide +kernel) ?_
    obtain ⟨r6, σ5, hcr6, hf⟩ := cl2_e hf
    refine v_cS C [.long x0] [] (c_Long_numberOfTrailingZeros G l σ x0 hcr6) 219 1 tw_419 tw_417 tw_418 tw_12 hd_Long_numberOfTrailingZeros rfl ⟨(Nat.le_of_ble_eq_true rfl), (Nat.le_of_ble_eq_true rfl)⟩ ⟨(Nat.le_of_ble_eq_true rfl), (Nat.le_of_ble_eq_true rfl)⟩ (Nat.le_of_ble_eq_true rfl) rfl 14 rfl (by decide +kernel) [.int r6] rfl ?_
    obtain ⟨rfl, rfl⟩ := ret_e hf
    exact v_iret C hr (by decide +kernel)
  · have hf := ite2_t hf h4
    refine v_iconst C (-1) (-1) (by decide) 7 rfl (by decide +kernel) ?_
    refine v_goto C 14 (by decide +kernel) ?_
    obtain ⟨rfl, rfl⟩ := ret_e hf
    exact v_iret C hr (by decide +kernel)
theorem hd_N_firstOf : (⟨"NinthStep", "firstOf", "(J)I"⟩ : MethodName).cls ≠ "java/lang/invoke/MethodHandle" ∧ (⟨"NinthStep", "firstOf", "(J)I"⟩ : MethodName).cls ≠ "java/lang/invoke/VarHandle" ∧ (parseMethodDescriptor (⟨"NinthStep", "firstOf", "(J)I"⟩ : MethodName).desc).map (fun d => d.parameters.length) = some 1 := by decide +kernel
def g_N_saidAs (σ : ns_St) (a0 : Nat) (a1 : Nat) (x2 : Int32) : Option (Int32 × ns_St) := grd (ns_kd a0 = 8) <| grd (ns_kd a1 = 2) <| drf (σ.2.2 a0 0) fun b24 => grd (ns_kd b24 = 7) <| drf (σ.2.2 b24 0) fun b25 => grd (ns_kd b25 = 1) <| ite2 (x2 = 1) (some ((σ.1 a1 6), σ)) (ite2 (x2 = 2) (cl2 (g_N_above σ (σ.1 a1 2)) fun r29 σ28 => cl2 (g_Long_bitCount σ28 ((σ.2.1 b25 1) &&& r29)) fun r31 σ30 => some (r31, σ30)) (ite2 (x2 = 3) (cl2 (g_N_above σ (σ.1 a1 2)) fun r34 σ33 => cl2 (g_Long_bitCount σ33 ((σ.2.1 b25 3) &&& r34)) fun r36 σ35 => some (r36, σ35)) (ite2 (x2 = 4) (cl2 (g_N_above σ (σ.1 a1 2)) fun r39 σ38 => cl2 (g_Long_bitCount σ38 ((σ.2.1 b25 2) &&& r39)) fun r41 σ40 => some (r41, σ40)) (ite2 (x2 = 5) (cl2 (g_N_above σ (σ.1 a1 2)) fun r44 σ43 => cl2 (g_N_firstOf σ43 ((σ.2.1 b25 2) &&& r44)) fun r46 σ45 => some (r46, σ45)) (some ((σ.1 a1 1), σ))))))
theorem c_N_saidAs (G : ns_G) (l : Launch) (σ : ns_St) (a0 : Nat) (a1 : Nat) (x2 : Int32) {r : Int32} {σ' : ns_St} (hf : g_N_saidAs σ a0 a1 x2 = some (r, σ')) : ns_ok G l ⟨"NinthStep", "saidAs", "(LNinthStep$Mule;I)I"⟩ prog_1_method_52_code 4 (some .int) 3 64 0 0 [.ref (G.1 + a0), .ref (G.1 + a1), .int x2] ns_N σ (some (.int r)) ns_N σ' := by
  refine v_open (by decide) (Nat.le_of_ble_eq_true rfl) rfl ?_
  intro p e s m below meth c C hr _
  have C : ns_Cx G p s m _ meth c prog_1_method_52_code "NinthStep" 4 := C
  unfold g_N_saidAs at hf
  obtain ⟨hk_a0, hf⟩ := grd_e hf
  obtain ⟨hk_a1, hf⟩ := grd_e hf
  refine v_aload_n C 0 0 rfl 1 rfl (by decide +kernel) ?_
  obtain ⟨b24, hb24, hf⟩ := drf_e hf
  obtain ⟨hk_b24, hf⟩ := grd_e hf
  refine v_getR C 8 0 hb24 rfl nin_8 (ns_kd_lt hk_a0 (by decide)) hk_a0 (by decide) (by decide) rfl 12 tw_287 rfl 4 rfl (by decide +kernel) ?_
  obtain ⟨b25, hb25, hf⟩ := drf_e hf
  obtain ⟨hk_b25, hf⟩ := grd_e hf
  refine v_getRN C 7 0 hb25 rfl nin_7 (ns_kd_lt hk_b24 (by decide)) hk_b24 (by decide) (by decide) rfl 138 tw_128 rfl 7 rfl (by decide +kernel) ?_
  refine v_astore_n C 3 [(3, .ref (G.1 + b25)), (0, .ref (G.1 + a0)), (1, .ref (G.1 + a1)), (2, .int x2)] (by decide) rfl 8 rfl (by decide +kernel) ?_
  refine v_iload_n C 2 3 rfl 9 rfl (by decide +kernel) ?_
  by_cases h26 : x2 = 1
  · have hf := ite2_t hf h26
    refine v_tswI C (104) (1) (5) #[(35), (40), (56), (72), (88)] 35 44 (1) h26 (by decide) (by decide) (35) (by decide) (by decide) (by decide +kernel) ?_
    refine v_aload_n C 1 2 rfl 45 rfl (by decide +kernel) ?_
    refine v_getIN C 2 6 rfl nin_2 (ns_kd_lt hk_a1 (by decide)) hk_a1 (by decide) (by decide) rfl 340 tw_105 rfl 48 rfl (by decide +kernel) ?_
    obtain ⟨rfl, rfl⟩ := ret_e hf
    exact v_iret C hr (by decide +kernel)
  · have hf := ite2_f hf h26
    by_cases h27 : x2 = 2
    · have hf := ite2_t hf h27
      refine v_tswI C (104) (1) (5) #[(35), (40), (56), (72), (88)] 35 49 (2) h27 (by decide) (by decide) (40) (by decide) (by decide) (by decide +kernel) ?_
      refine v_aload_n C 3 0 rfl 50 rfl (by decide +kernel) ?_
      refine v_getJN C 1 1 rfl nin_1 (ns_kd_lt hk_b25 (by decide)) hk_b25 (by decide) (by decide) rfl 343 tw_50 rfl 53 rfl (by decide +kernel) ?_
      refine v_aload_n C 1 2 rfl 54 rfl (by decide +kernel) ?_
      refine v_getIN C 2 2 rfl nin_2 (ns_kd_lt hk_a1 (by decide)) hk_a1 (by decide) (by decide) rfl 179 tw_93 rfl 57 rfl (by decide +kernel) ?_
      obtain ⟨r29, σ28, hcr29, hf⟩ := cl2_e hf
      refine v_cS C [.int (σ.1 a1 2)] [.long (σ.2.1 b25 1)] (c_N_above G l σ (σ.1 a1 2) hcr29) 346 1 tw_406 tw_404 tw_405 tw_1 hd_N_above rfl ⟨(Nat.le_of_ble_eq_true rfl), (Nat.le_of_ble_eq_true rfl)⟩ ⟨(Nat.le_of_ble_eq_true rfl), (Nat.le_of_ble_eq_true rfl)⟩ (Nat.le_of_ble_eq_true rfl) rfl 60 rfl (by decide +kernel) [.long r29, .long (σ.2.1 b25 1)] rfl ?_
      refine v_land C 61 rfl (by decide +kernel) ?_
      obtain ⟨r31, σ30, hcr31, hf⟩ := cl2_e hf
      refine v_cS C [.long ((σ.2.1 b25 1) &&& r29)] [] (c_Long_bitCount G l σ28 ((σ.2.1 b25 1) &&& r29) hcr31) 213 1 tw_410 tw_408 tw_409 tw_12 hd_Long_bitCount rfl ⟨(Nat.le_of_ble_eq_true rfl), (Nat.le_of_ble_eq_true rfl)⟩ ⟨(Nat.le_of_ble_eq_true rfl), (Nat.le_of_ble_eq_true rfl)⟩ (Nat.le_of_ble_eq_true rfl) rfl 64 rfl (by decide +kernel) [.int r31] rfl ?_
      obtain ⟨rfl, rfl⟩ := ret_e hf
      exact v_iret C hr (by decide +kernel)
    · have hf := ite2_f hf h27
      by_cases h32 : x2 = 3
      · have hf := ite2_t hf h32
        refine v_tswI C (104) (1) (5) #[(35), (40), (56), (72), (88)] 35 65 (3) h32 (by decide) (by decide) (56) (by decide) (by decide) (by decide +kernel) ?_
        refine v_aload_n C 3 0 rfl 66 rfl (by decide +kernel) ?_
        refine v_getJN C 1 3 rfl nin_1 (ns_kd_lt hk_b25 (by decide)) hk_b25 (by decide) (by decide) rfl 234 tw_60 rfl 69 rfl (by decide +kernel) ?_
        refine v_aload_n C 1 2 rfl 70 rfl (by decide +kernel) ?_
        refine v_getIN C 2 2 rfl nin_2 (ns_kd_lt hk_a1 (by decide)) hk_a1 (by decide) (by decide) rfl 179 tw_93 rfl 73 rfl (by decide +kernel) ?_
        obtain ⟨r34, σ33, hcr34, hf⟩ := cl2_e hf
        refine v_cS C [.int (σ.1 a1 2)] [.long (σ.2.1 b25 3)] (c_N_above G l σ (σ.1 a1 2) hcr34) 346 1 tw_406 tw_404 tw_405 tw_1 hd_N_above rfl ⟨(Nat.le_of_ble_eq_true rfl), (Nat.le_of_ble_eq_true rfl)⟩ ⟨(Nat.le_of_ble_eq_true rfl), (Nat.le_of_ble_eq_true rfl)⟩ (Nat.le_of_ble_eq_true rfl) rfl 76 rfl (by decide +kernel) [.long r34, .long (σ.2.1 b25 3)] rfl ?_
        refine v_land C 77 rfl (by decide +kernel) ?_
        obtain ⟨r36, σ35, hcr36, hf⟩ := cl2_e hf
        refine v_cS C [.long ((σ.2.1 b25 3) &&& r34)] [] (c_Long_bitCount G l σ33 ((σ.2.1 b25 3) &&& r34) hcr36) 213 1 tw_410 tw_408 tw_409 tw_12 hd_Long_bitCount rfl ⟨(Nat.le_of_ble_eq_true rfl), (Nat.le_of_ble_eq_true rfl)⟩ ⟨(Nat.le_of_ble_eq_true rfl), (Nat.le_of_ble_eq_true rfl)⟩ (Nat.le_of_ble_eq_true rfl) rfl 80 rfl (by decide +kernel) [.int r36] rfl ?_
        obtain ⟨rfl, rfl⟩ := ret_e hf
        exact v_iret C hr (by decide +kernel)
      · have hf := ite2_f hf h32
        by_cases h37 : x2 = 4
        · have hf := ite2_t hf h37
          refine v_tswI C (104) (1) (5) #[(35), (40), (56), (72), (88)] 35 81 (4) h37 (by decide) (by decide) (72) (by decide) (by decide) (by decide +kernel) ?_
          refine v_aload_n C 3 0 rfl 82 rfl (by decide +kernel) ?_
          refine v_getJN C 1 2 rfl nin_1 (ns_kd_lt hk_b25 (by decide)) hk_b25 (by decide) (by decide) rfl 349 tw_53 rfl 85 rfl (by decide +kernel) ?_
          refine v_aload_n C 1 2 rfl 86 rfl (by decide +kernel) ?_
          refine v_getIN C 2 2 rfl nin_2 (ns_kd_lt hk_a1 (by decide)) hk_a1 (by decide) (by decide) rfl 179 tw_93 rfl 89 rfl (by decide +kernel) ?_
          obtain ⟨r39, σ38, hcr39, hf⟩ := cl2_e hf
          refine v_cS C [.int (σ.1 a1 2)] [.long (σ.2.1 b25 2)] (c_N_above G l σ (σ.1 a1 2) hcr39) 346 1 tw_406 tw_404 tw_405 tw_1 hd_N_above rfl ⟨(Nat.le_of_ble_eq_true rfl), (Nat.le_of_ble_eq_true rfl)⟩ ⟨(Nat.le_of_ble_eq_true rfl), (Nat.le_of_ble_eq_true rfl)⟩ (Nat.le_of_ble_eq_true rfl) rfl 92 rfl (by decide +kernel) [.long r39, .long (σ.2.1 b25 2)] rfl ?_
          refine v_land C 93 rfl (by decide +kernel) ?_
          obtain ⟨r41, σ40, hcr41, hf⟩ := cl2_e hf
          refine v_cS C [.long ((σ.2.1 b25 2) &&& r39)] [] (c_Long_bitCount G l σ38 ((σ.2.1 b25 2) &&& r39) hcr41) 213 1 tw_410 tw_408 tw_409 tw_12 hd_Long_bitCount rfl ⟨(Nat.le_of_ble_eq_true rfl), (Nat.le_of_ble_eq_true rfl)⟩ ⟨(Nat.le_of_ble_eq_true rfl), (Nat.le_of_ble_eq_true rfl)⟩ (Nat.le_of_ble_eq_true rfl) rfl 96 rfl (by decide +kernel) [.int r41] rfl ?_
          obtain ⟨rfl, rfl⟩ := ret_e hf
          exact v_iret C hr (by decide +kernel)
        · have hf := ite2_f hf h37
          by_cases h42 : x2 = 5
          · have hf := ite2_t hf h42
            refine v_tswI C (104) (1) (5) #[(35), (40), (56), (72), (88)] 35 97 (5) h42 (by decide) (by decide) (88) (by decide) (by decide) (by decide +kernel) ?_
            refine v_aload_n C 3 0 rfl 98 rfl (by decide +kernel) ?_
            refine v_getJN C 1 2 rfl nin_1 (ns_kd_lt hk_b25 (by decide)) hk_b25 (by decide) (by decide) rfl 349 tw_53 rfl 101 rfl (by decide +kernel) ?_
            refine v_aload_n C 1 2 rfl 102 rfl (by decide +kernel) ?_
            refine v_getIN C 2 2 rfl nin_2 (ns_kd_lt hk_a1 (by decide)) hk_a1 (by decide) (by decide) rfl 179 tw_93 rfl 105 rfl (by decide +kernel) ?_
            obtain ⟨r44, σ43, hcr44, hf⟩ := cl2_e hf
            refine v_cS C [.int (σ.1 a1 2)] [.long (σ.2.1 b25 2)] (c_N_above G l σ (σ.1 a1 2) hcr44) 346 1 tw_406 tw_404 tw_405 tw_1 hd_N_above rfl ⟨(Nat.le_of_ble_eq_true rfl), (Nat.le_of_ble_eq_true rfl)⟩ ⟨(Nat.le_of_ble_eq_true rfl), (Nat.le_of_ble_eq_true rfl)⟩ (Nat.le_of_ble_eq_true rfl) rfl 108 rfl (by decide +kernel) [.long r44, .long (σ.2.1 b25 2)] rfl ?_
            refine v_land C 109 rfl (by decide +kernel) ?_
            obtain ⟨r46, σ45, hcr46, hf⟩ := cl2_e hf
            refine v_cS C [.long ((σ.2.1 b25 2) &&& r44)] [] (c_N_firstOf G l σ43 ((σ.2.1 b25 2) &&& r44) hcr46) 238 1 tw_416 tw_414 tw_415 tw_1 hd_N_firstOf rfl ⟨(Nat.le_of_ble_eq_true rfl), (Nat.le_of_ble_eq_true rfl)⟩ ⟨(Nat.le_of_ble_eq_true rfl), (Nat.le_of_ble_eq_true rfl)⟩ (Nat.le_of_ble_eq_true rfl) rfl 112 rfl (by decide +kernel) [.int r46] rfl ?_
            obtain ⟨rfl, rfl⟩ := ret_e hf
            exact v_iret C hr (by decide +kernel)
          · have hf := ite2_f hf h42
            refine v_tswO C (104) (1) (5) #[(35), (40), (56), (72), (88)] 35 113 (ns_out x2 (1) (5) (fun k h1 h2 => by
              have h3 : k = 1 ∨ k = 2 ∨ k = 3 ∨ k = 4 ∨ k = 5 := by omega
              rcases h3 with rfl | rfl | rfl | rfl | rfl
              · exact h26
              · exact h27
              · exact h32
              · exact h37
              · exact h42)) (by decide) (by decide +kernel) ?_
            refine v_aload_n C 1 2 rfl 114 rfl (by decide +kernel) ?_
            refine v_getIN C 2 1 rfl nin_2 (ns_kd_lt hk_a1 (by decide)) hk_a1 (by decide) (by decide) rfl 176 tw_86 rfl 117 rfl (by decide +kernel) ?_
            obtain ⟨rfl, rfl⟩ := ret_e hf
            exact v_iret C hr (by decide +kernel)
theorem hd_N_saidAs : (⟨"NinthStep", "saidAs", "(LNinthStep$Mule;I)I"⟩ : MethodName).cls = "NinthStep" ∧ (⟨"NinthStep", "saidAs", "(LNinthStep$Mule;I)I"⟩ : MethodName).cls ≠ "java/lang/invoke/MethodHandle" ∧ (⟨"NinthStep", "saidAs", "(LNinthStep$Mule;I)I"⟩ : MethodName).cls ≠ "java/lang/invoke/VarHandle" ∧ (parseMethodDescriptor (⟨"NinthStep", "saidAs", "(LNinthStep$Mule;I)I"⟩ : MethodName).desc).map (fun d => d.parameters.length) = some 2 := by decide +kernel
def g_N_says (σ : ns_St) (a0 : Nat) (x1 : Int32) (x2 : Int32) : Option (Int32 × ns_St) := grd (ns_kd a0 = 8) <| cl2 (g_N_shelfAt σ a0 x1) fun r28 σ27 => onul r28 (cl2 (g_N_refuse σ27 a0 (-2 : Int32)) fun r31 σ30 => some (r31, σ30)) (fun b29 => grd (ns_kd b29 = 3) <| cl2 (g_N_isWithin σ27 x2 (0 : Int32) (5 : Int32)) fun r33 σ32 => ite2 (r33 = 0) (cl2 (g_N_refuse σ32 a0 (-2 : Int32)) fun r52 σ51 => some (r52, σ51)) (ite2 ((σ32.1 b29 0) = (-1 : Int32)) (cl2 (g_N_refuse σ32 a0 (-4 : Int32)) fun r50 σ49 => some (r50, σ49)) (drf (σ32.2.2 a0 0) fun b36 => grd (ns_kd b36 = 7) <| cl2 (g_World_muleAt σ32 b36 ((σ32.1 b29 0) - (10 : Int32))) fun r38 σ37 => onul r38 (cl2 (g_N_refuse σ37 a0 (-3 : Int32)) fun r41 σ40 => some (r41, σ40)) (fun b39 => grd (ns_kd b39 = 2) <| cl2 (g_N_isUnder σ37 (σ37.1 b39 0) x2) fun r43 σ42 => ite2 (r43 = 0) (cl2 (g_N_refuse σ42 a0 (-3 : Int32)) fun r48 σ47 => some (r48, σ47)) (cl2 (g_N_saidAs σ42 a0 b39 x2) fun r46 σ45 => some (r46, σ45))))))
theorem c_N_says (G : ns_G) (l : Launch) (σ : ns_St) (a0 : Nat) (x1 : Int32) (x2 : Int32) {r : Int32} {σ' : ns_St} (hf : g_N_says σ a0 x1 x2 = some (r, σ')) : ns_ok G l ⟨"NinthStep", "says", "(II)I"⟩ prog_1_method_8_code 5 (some .int) 4 87 0 0 [.ref (G.1 + a0), .int x1, .int x2] ns_N σ (some (.int r)) ns_N σ' := by
  refine v_open (by decide) (Nat.le_of_ble_eq_true rfl) rfl ?_
  intro p e s m below meth c C hr _
  have C : ns_Cx G p s m _ meth c prog_1_method_8_code "NinthStep" 5 := C
  unfold g_N_says at hf
  obtain ⟨hk_a0, hf⟩ := grd_e hf
  refine v_aload_n C 0 0 rfl 1 rfl (by decide +kernel) ?_
  refine v_iload_n C 1 1 rfl 2 rfl (by decide +kernel) ?_
  obtain ⟨r28, σ27, hcr28, hf⟩ := cl2_e hf
  rcases r28 with _ | b29
  · have hf := onul_n hf
    refine v_cV C 8 rfl (ns_kd_lt hk_a0 (by decide)) hk_a0 (by decide) [.int x1] [] (c_N_shelfAt G l σ a0 x1 hcr28) 71 1 tw_331 tw_328 tw_330 ts_0 tw_1 hd_N_shelfAt rfl ⟨(Nat.le_of_ble_eq_true rfl), (Nat.le_of_ble_eq_true rfl)⟩ ⟨(Nat.le_of_ble_eq_true rfl), (Nat.le_of_ble_eq_true rfl)⟩ (Nat.le_of_ble_eq_true rfl) rfl 5 rfl (by decide +kernel) [.null] rfl ?_
    refine v_astore_nN C 3 [(3, .null), (0, .ref (G.1 + a0)), (1, .int x1), (2, .int x2)] (by decide) rfl 6 rfl (by decide +kernel) ?_
    refine v_aload_nN C 3 0 rfl 7 rfl (by decide +kernel) ?_
    refine v_ifnullN C 19 (by decide +kernel) ?_
    refine v_aload_n C 0 1 rfl 20 rfl (by decide +kernel) ?_
    refine v_bipush C (-2) (-2) (by decide) 22 rfl (by decide +kernel) ?_
    obtain ⟨r31, σ30, hcr31, hf⟩ := cl2_e hf
    refine v_cV C 8 rfl (ns_kd_lt hk_a0 (by decide)) hk_a0 (by decide) [.int (-2 : Int32)] [] (c_N_refuse G l σ27 a0 (-2 : Int32) hcr31) 79 1 tw_338 tw_335 tw_337 ts_1 tw_1 hd_N_refuse rfl ⟨(Nat.le_of_ble_eq_true rfl), (Nat.le_of_ble_eq_true rfl)⟩ ⟨(Nat.le_of_ble_eq_true rfl), (Nat.le_of_ble_eq_true rfl)⟩ (Nat.le_of_ble_eq_true rfl) rfl 25 rfl (by decide +kernel) [.int r31] rfl ?_
    obtain ⟨rfl, rfl⟩ := ret_e hf
    exact v_iret C hr (by decide +kernel)
  · have hf := onul_s hf
    obtain ⟨hk_b29, hf⟩ := grd_e hf
    refine v_cV C 8 rfl (ns_kd_lt hk_a0 (by decide)) hk_a0 (by decide) [.int x1] [] (c_N_shelfAt G l σ a0 x1 hcr28) 71 1 tw_331 tw_328 tw_330 ts_0 tw_1 hd_N_shelfAt rfl ⟨(Nat.le_of_ble_eq_true rfl), (Nat.le_of_ble_eq_true rfl)⟩ ⟨(Nat.le_of_ble_eq_true rfl), (Nat.le_of_ble_eq_true rfl)⟩ (Nat.le_of_ble_eq_true rfl) rfl 5 rfl (by decide +kernel) [.ref (G.1 + b29)] rfl ?_
    refine v_astore_n C 3 [(3, .ref (G.1 + b29)), (0, .ref (G.1 + a0)), (1, .int x1), (2, .int x2)] (by decide) rfl 6 rfl (by decide +kernel) ?_
    refine v_aload_n C 3 0 rfl 7 rfl (by decide +kernel) ?_
    refine v_ifnull C 19 10 rfl (by decide +kernel) ?_
    refine v_iload_n C 2 3 rfl 11 rfl (by decide +kernel) ?_
    refine v_iconst C (0) (0) (by decide) 12 rfl (by decide +kernel) ?_
    refine v_iconst C (5) (5) (by decide) 13 rfl (by decide +kernel) ?_
    obtain ⟨r33, σ32, hcr33, hf⟩ := cl2_e hf
    refine v_cS C [.int x2, .int (0 : Int32), .int (5 : Int32)] [] (c_N_isWithin G l σ27 x2 (0 : Int32) (5 : Int32) hcr33) 75 3 tw_334 tw_332 tw_333 tw_1 hd_N_isWithin rfl ⟨(Nat.le_of_ble_eq_true rfl), (Nat.le_of_ble_eq_true rfl)⟩ ⟨(Nat.le_of_ble_eq_true rfl), (Nat.le_of_ble_eq_true rfl)⟩ (Nat.le_of_ble_eq_true rfl) rfl 16 rfl (by decide +kernel) [.int r33] rfl ?_
    refine v_if_ne C 26 19 rfl (by decide +kernel) (fun h34 => ?_) (fun h34 => ?_)
    · have hf := ite2_f hf h34
      refine v_aload_n C 3 0 rfl 27 rfl (by decide +kernel) ?_
      refine v_getIN C 3 0 rfl nin_3 (ns_kd_lt hk_b29 (by decide)) hk_b29 (by decide) (by decide) rfl 117 tw_275 rfl 30 rfl (by decide +kernel) ?_
      refine v_iconst C (-1) (-1) (by decide) 31 rfl (by decide +kernel) ?_
      refine v_icmp_ne C 41 34 rfl (by decide +kernel) (fun h35 => ?_) (fun h35 => ?_)
      · have hf := ite2_f hf h35
        refine v_aload_n C 0 1 rfl 42 rfl (by decide +kernel) ?_
        obtain ⟨b36, hb36, hf⟩ := drf_e hf
        obtain ⟨hk_b36, hf⟩ := grd_e hf
        refine v_getR C 8 0 hb36 rfl nin_8 (ns_kd_lt hk_a0 (by decide)) hk_a0 (by decide) (by decide) rfl 12 tw_287 rfl 45 rfl (by decide +kernel) ?_
        refine v_aload_n C 3 0 rfl 46 rfl (by decide +kernel) ?_
        refine v_getIN C 3 0 rfl nin_3 (ns_kd_lt hk_b29 (by decide)) hk_b29 (by decide) (by decide) rfl 117 tw_275 rfl 49 rfl (by decide +kernel) ?_
        refine v_bipush C (10) (10) (by decide) 51 rfl (by decide +kernel) ?_
        refine v_isub C 52 rfl (by decide +kernel) ?_
        obtain ⟨r38, σ37, hcr38, hf⟩ := cl2_e hf
        rcases r38 with _ | b39
        · have hf := onul_n hf
          refine v_cVN C 7 rfl (ns_kd_lt hk_b36 (by decide)) hk_b36 (by decide) [.int ((σ32.1 b29 0) - (10 : Int32))] [] (c_World_muleAt G l σ32 b36 ((σ32.1 b29 0) - (10 : Int32)) hcr38) 120 1 tw_390 tw_387 tw_389 ts_7 tw_2 hd_World_muleAt rfl ⟨(Nat.le_of_ble_eq_true rfl), (Nat.le_of_ble_eq_true rfl)⟩ ⟨(Nat.le_of_ble_eq_true rfl), (Nat.le_of_ble_eq_true rfl)⟩ (Nat.le_of_ble_eq_true rfl) rfl 55 rfl (by decide +kernel) [.null] rfl ?_
          refine v_astoreN C 4 [(4, .null), (3, .ref (G.1 + b29)), (0, .ref (G.1 + a0)), (1, .int x1), (2, .int x2)] (by decide) rfl 57 rfl (by decide +kernel) ?_
          refine v_aloadN C 4 0 rfl 59 rfl (by decide +kernel) ?_
          refine v_ifnullN C 74 (by decide +kernel) ?_
          refine v_aload_n C 0 2 rfl 75 rfl (by decide +kernel) ?_
          refine v_bipush C (-3) (-3) (by decide) 77 rfl (by decide +kernel) ?_
          obtain ⟨r41, σ40, hcr41, hf⟩ := cl2_e hf
          refine v_cV C 8 rfl (ns_kd_lt hk_a0 (by decide)) hk_a0 (by decide) [.int (-3 : Int32)] [] (c_N_refuse G l σ37 a0 (-3 : Int32) hcr41) 79 1 tw_338 tw_335 tw_337 ts_1 tw_1 hd_N_refuse rfl ⟨(Nat.le_of_ble_eq_true rfl), (Nat.le_of_ble_eq_true rfl)⟩ ⟨(Nat.le_of_ble_eq_true rfl), (Nat.le_of_ble_eq_true rfl)⟩ (Nat.le_of_ble_eq_true rfl) rfl 80 rfl (by decide +kernel) [.int r41] rfl ?_
          obtain ⟨rfl, rfl⟩ := ret_e hf
          exact v_iret C hr (by decide +kernel)
        · have hf := onul_s hf
          obtain ⟨hk_b39, hf⟩ := grd_e hf
          refine v_cVN C 7 rfl (ns_kd_lt hk_b36 (by decide)) hk_b36 (by decide) [.int ((σ32.1 b29 0) - (10 : Int32))] [] (c_World_muleAt G l σ32 b36 ((σ32.1 b29 0) - (10 : Int32)) hcr38) 120 1 tw_390 tw_387 tw_389 ts_7 tw_2 hd_World_muleAt rfl ⟨(Nat.le_of_ble_eq_true rfl), (Nat.le_of_ble_eq_true rfl)⟩ ⟨(Nat.le_of_ble_eq_true rfl), (Nat.le_of_ble_eq_true rfl)⟩ (Nat.le_of_ble_eq_true rfl) rfl 55 rfl (by decide +kernel) [.ref (G.1 + b39)] rfl ?_
          refine v_astore C 4 [(4, .ref (G.1 + b39)), (3, .ref (G.1 + b29)), (0, .ref (G.1 + a0)), (1, .int x1), (2, .int x2)] (by decide) rfl 57 rfl (by decide +kernel) ?_
          refine v_aload C 4 0 rfl 59 rfl (by decide +kernel) ?_
          refine v_ifnull C 74 62 rfl (by decide +kernel) ?_
          refine v_aload C 4 0 rfl 64 rfl (by decide +kernel) ?_
          refine v_getIN C 2 0 rfl nin_2 (ns_kd_lt hk_b39 (by decide)) hk_b39 (by decide) (by decide) rfl 124 tw_83 rfl 67 rfl (by decide +kernel) ?_
          refine v_iload_n C 2 4 rfl 68 rfl (by decide +kernel) ?_
          obtain ⟨r43, σ42, hcr43, hf⟩ := cl2_e hf
          refine v_cS C [.int (σ37.1 b39 0), .int x2] [] (c_N_isUnder G l σ37 (σ37.1 b39 0) x2 hcr43) 127 2 tw_397 tw_395 tw_396 tw_1 hd_N_isUnder rfl ⟨(Nat.le_of_ble_eq_true rfl), (Nat.le_of_ble_eq_true rfl)⟩ ⟨(Nat.le_of_ble_eq_true rfl), (Nat.le_of_ble_eq_true rfl)⟩ (Nat.le_of_ble_eq_true rfl) rfl 71 rfl (by decide +kernel) [.int r43] rfl ?_
          refine v_if_ne C 81 74 rfl (by decide +kernel) (fun h44 => ?_) (fun h44 => ?_)
          · have hf := ite2_f hf h44
            refine v_aload_n C 0 2 rfl 82 rfl (by decide +kernel) ?_
            refine v_aload C 4 0 rfl 84 rfl (by decide +kernel) ?_
            refine v_iload_n C 2 4 rfl 85 rfl (by decide +kernel) ?_
            obtain ⟨r46, σ45, hcr46, hf⟩ := cl2_e hf
            refine v_cV C 8 rfl (ns_kd_lt hk_a0 (by decide)) hk_a0 (by decide) [.ref (G.1 + b39), .int x2] [] (c_N_saidAs G l σ42 a0 b39 x2 hcr46) 131 2 tw_403 tw_400 tw_402 ts_8 tw_1 hd_N_saidAs rfl ⟨(Nat.le_of_ble_eq_true rfl), (Nat.le_of_ble_eq_true rfl)⟩ ⟨(Nat.le_of_ble_eq_true rfl), (Nat.le_of_ble_eq_true rfl)⟩ (Nat.le_of_ble_eq_true rfl) rfl 88 rfl (by decide +kernel) [.int r46] rfl ?_
            obtain ⟨rfl, rfl⟩ := ret_e hf
            exact v_iret C hr (by decide +kernel)
          · have hf := ite2_t hf h44
            refine v_aload_n C 0 2 rfl 75 rfl (by decide +kernel) ?_
            refine v_bipush C (-3) (-3) (by decide) 77 rfl (by decide +kernel) ?_
            obtain ⟨r48, σ47, hcr48, hf⟩ := cl2_e hf
            refine v_cV C 8 rfl (ns_kd_lt hk_a0 (by decide)) hk_a0 (by decide) [.int (-3 : Int32)] [] (c_N_refuse G l σ42 a0 (-3 : Int32) hcr48) 79 1 tw_338 tw_335 tw_337 ts_1 tw_1 hd_N_refuse rfl ⟨(Nat.le_of_ble_eq_true rfl), (Nat.le_of_ble_eq_true rfl)⟩ ⟨(Nat.le_of_ble_eq_true rfl), (Nat.le_of_ble_eq_true rfl)⟩ (Nat.le_of_ble_eq_true rfl) rfl 80 rfl (by decide +kernel) [.int r48] rfl ?_
            obtain ⟨rfl, rfl⟩ := ret_e hf
            exact v_iret C hr (by decide +kernel)
      · have hf := ite2_t hf h35
        refine v_aload_n C 0 1 rfl 35 rfl (by decide +kernel) ?_
        refine v_bipush C (-4) (-4) (by decide) 37 rfl (by decide +kernel) ?_
        obtain ⟨r50, σ49, hcr50, hf⟩ := cl2_e hf
        refine v_cV C 8 rfl (ns_kd_lt hk_a0 (by decide)) hk_a0 (by decide) [.int (-4 : Int32)] [] (c_N_refuse G l σ32 a0 (-4 : Int32) hcr50) 79 1 tw_338 tw_335 tw_337 ts_1 tw_1 hd_N_refuse rfl ⟨(Nat.le_of_ble_eq_true rfl), (Nat.le_of_ble_eq_true rfl)⟩ ⟨(Nat.le_of_ble_eq_true rfl), (Nat.le_of_ble_eq_true rfl)⟩ (Nat.le_of_ble_eq_true rfl) rfl 40 rfl (by decide +kernel) [.int r50] rfl ?_
        obtain ⟨rfl, rfl⟩ := ret_e hf
        exact v_iret C hr (by decide +kernel)
    · have hf := ite2_t hf h34
      refine v_aload_n C 0 1 rfl 20 rfl (by decide +kernel) ?_
      refine v_bipush C (-2) (-2) (by decide) 22 rfl (by decide +kernel) ?_
      obtain ⟨r52, σ51, hcr52, hf⟩ := cl2_e hf
      refine v_cV C 8 rfl (ns_kd_lt hk_a0 (by decide)) hk_a0 (by decide) [.int (-2 : Int32)] [] (c_N_refuse G l σ32 a0 (-2 : Int32) hcr52) 79 1 tw_338 tw_335 tw_337 ts_1 tw_1 hd_N_refuse rfl ⟨(Nat.le_of_ble_eq_true rfl), (Nat.le_of_ble_eq_true rfl)⟩ ⟨(Nat.le_of_ble_eq_true rfl), (Nat.le_of_ble_eq_true rfl)⟩ (Nat.le_of_ble_eq_true rfl) rfl 25 rfl (by decide +kernel) [.int r52] rfl ?_
      obtain ⟨rfl, rfl⟩ := ret_e hf
      exact v_iret C hr (by decide +kernel)
theorem hd_N_says : (⟨"NinthStep", "says", "(II)I"⟩ : MethodName).cls = "NinthStep" ∧ (⟨"NinthStep", "says", "(II)I"⟩ : MethodName).cls ≠ "java/lang/invoke/MethodHandle" ∧ (⟨"NinthStep", "says", "(II)I"⟩ : MethodName).cls ≠ "java/lang/invoke/VarHandle" ∧ (parseMethodDescriptor (⟨"NinthStep", "says", "(II)I"⟩ : MethodName).desc).map (fun d => d.parameters.length) = some 2 := by decide +kernel
def g_N_lastOf (σ : ns_St) (x0 : Int64) : Option (Int32 × ns_St) := ite2 ((lg_cmp x0 (0 : Int64)) = 0) (some ((-1 : Int32), σ)) (cl2 (g_Long_numberOfLeadingZeros σ x0) fun r6 σ5 => some (((63 : Int32) - r6), σ5))
theorem c_N_lastOf (G : ns_G) (l : Launch) (σ : ns_St) (x0 : Int64) {r : Int32} {σ' : ns_St} (hf : g_N_lastOf σ x0 = some (r, σ')) : ns_ok G l ⟨"NinthStep", "lastOf", "(J)I"⟩ prog_1_method_74_code 2 (some .int) 2 43 0 0 [.long x0] ns_N σ (some (.int r)) ns_N σ' := by
  refine v_open (by decide) (Nat.le_of_ble_eq_true rfl) rfl ?_
  intro p e s m below meth c C hr _
  have C : ns_Cx G p s m _ meth c prog_1_method_74_code "NinthStep" 2 := C
  unfold g_N_lastOf at hf
  refine v_lload_n C 0 0 rfl 1 rfl (by decide +kernel) ?_
  refine v_lconst C 0 (0) (by decide) 2 rfl (by decide +kernel) ?_
  refine v_lcmp C 3 rfl (by decide +kernel) ?_
  refine v_if_ne C 10 6 rfl (by decide +kernel) (fun h4 => ?_) (fun h4 => ?_)
  · have hf := ite2_f hf h4
    refine v_bipush C (63) (63) (by decide) 12 rfl (by decide +kernel) ?_
    refine v_lload_n C 0 0 rfl 13 rfl (by decide +kernel) ?_
    obtain ⟨r6, σ5, hcr6, hf⟩ := cl2_e hf
    refine v_cS C [.long x0] [.int (63 : Int32)] (c_Long_numberOfLeadingZeros G l σ x0 hcr6) 384 1 tw_437 tw_435 tw_436 tw_12 hd_Long_numberOfLeadingZeros rfl ⟨(Nat.le_of_ble_eq_true rfl), (Nat.le_of_ble_eq_true rfl)⟩ ⟨(Nat.le_of_ble_eq_true rfl), (Nat.le_of_ble_eq_true rfl)⟩ (Nat.le_of_ble_eq_true rfl) rfl 16 rfl (by decide +kernel) [.int r6, .int (63 : Int32)] rfl ?_
    refine v_isub C 17 rfl (by decide +kernel) ?_
    obtain ⟨rfl, rfl⟩ := ret_e hf
    exact v_iret C hr (by decide +kernel)
  · have hf := ite2_t hf h4
    refine v_iconst C (-1) (-1) (by decide) 7 rfl (by decide +kernel) ?_
    refine v_goto C 17 (by decide +kernel) ?_
    obtain ⟨rfl, rfl⟩ := ret_e hf
    exact v_iret C hr (by decide +kernel)
theorem hd_N_lastOf : (⟨"NinthStep", "lastOf", "(J)I"⟩ : MethodName).cls ≠ "java/lang/invoke/MethodHandle" ∧ (⟨"NinthStep", "lastOf", "(J)I"⟩ : MethodName).cls ≠ "java/lang/invoke/VarHandle" ∧ (parseMethodDescriptor (⟨"NinthStep", "lastOf", "(J)I"⟩ : MethodName).desc).map (fun d => d.parameters.length) = some 1 := by decide +kernel
