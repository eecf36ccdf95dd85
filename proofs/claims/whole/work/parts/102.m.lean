def g_Ground_highest (σ : ns_St) (a0 : Nat) : Option (Int32 × ns_St) := grd (ns_kd a0 = 1) <| cl2 (g_N_lastOf σ ((((σ.2.1 a0 1) ||| (σ.2.1 a0 2)) ||| (σ.2.1 a0 3)) ||| (σ.2.1 a0 4))) fun r4 σ3 => some (r4, σ3)
theorem c_Ground_highest (G : ns_G) (l : Launch) (σ : ns_St) (a0 : Nat) {r : Int32} {σ' : ns_St} (hf : g_Ground_highest σ a0 = some (r, σ')) : ns_ok G l ⟨"NinthStep$Ground", "highest", "()I"⟩ prog_3_method_6_code 1 (some .int) 3 64 0 0 [.ref (G.1 + a0)] ns_N σ (some (.int r)) ns_N σ' := by
  refine v_open (by decide) (Nat.le_of_ble_eq_true rfl) rfl ?_
  intro p e s m below meth c C hr _
  have C : ns_Cx G p s m _ meth c prog_3_method_6_code "NinthStep$Ground" 1 := C
  unfold g_Ground_highest at hf
  obtain ⟨hk_a0, hf⟩ := grd_e hf
  refine v_aload_n C 0 0 rfl 1 rfl (by decide +kernel) ?_
  refine v_getJ C 1 1 rfl nin_1 (ns_kd_lt hk_a0 (by decide)) hk_a0 (by decide) (by decide) rfl 15 tw_46 rfl 4 rfl (by decide +kernel) ?_
  refine v_aload_n C 0 0 rfl 5 rfl (by decide +kernel) ?_
  refine v_getJ C 1 2 rfl nin_1 (ns_kd_lt hk_a0 (by decide)) hk_a0 (by decide) (by decide) rfl 19 tw_51 rfl 8 rfl (by decide +kernel) ?_
  refine v_lor C 9 rfl (by decide +kernel) ?_
  refine v_aload_n C 0 0 rfl 10 rfl (by decide +kernel) ?_
  refine v_getJ C 1 3 rfl nin_1 (ns_kd_lt hk_a0 (by decide)) hk_a0 (by decide) (by decide) rfl 22 tw_54 rfl 13 rfl (by decide +kernel) ?_
  refine v_lor C 14 rfl (by decide +kernel) ?_
  refine v_aload_n C 0 0 rfl 15 rfl (by decide +kernel) ?_
  refine v_getJ C 1 4 rfl nin_1 (ns_kd_lt hk_a0 (by decide)) hk_a0 (by decide) (by decide) rfl 25 tw_61 rfl 18 rfl (by decide +kernel) ?_
  refine v_lor C 19 rfl (by decide +kernel) ?_
  obtain ⟨r4, σ3, hcr4, hf⟩ := cl2_e hf
  refine v_cSN C [.long ((((σ.2.1 a0 1) ||| (σ.2.1 a0 2)) ||| (σ.2.1 a0 3)) ||| (σ.2.1 a0 4))] [] (c_N_lastOf G l σ ((((σ.2.1 a0 1) ||| (σ.2.1 a0 2)) ||| (σ.2.1 a0 3)) ||| (σ.2.1 a0 4)) hcr4) 41 1 tw_434 tw_432 tw_433 tw_1 hd_N_lastOf rfl ⟨(Nat.le_of_ble_eq_true rfl), (Nat.le_of_ble_eq_true rfl)⟩ ⟨(Nat.le_of_ble_eq_true rfl), (Nat.le_of_ble_eq_true rfl)⟩ (Nat.le_of_ble_eq_true rfl) rfl 22 rfl (by decide +kernel) [.int r4] rfl ?_
  obtain ⟨rfl, rfl⟩ := ret_e hf
  exact v_iret C hr (by decide +kernel)
theorem hd_Ground_highest : (⟨"NinthStep$Ground", "highest", "()I"⟩ : MethodName).cls = "NinthStep$Ground" ∧ (⟨"NinthStep$Ground", "highest", "()I"⟩ : MethodName).cls ≠ "java/lang/invoke/MethodHandle" ∧ (⟨"NinthStep$Ground", "highest", "()I"⟩ : MethodName).cls ≠ "java/lang/invoke/VarHandle" ∧ (parseMethodDescriptor (⟨"NinthStep$Ground", "highest", "()I"⟩ : MethodName).desc).map (fun d => d.parameters.length) = some 0 := by decide +kernel
def g_N_length (σ : ns_St) (a0 : Nat) (x1 : Int32) : Option (Int32 × ns_St) := grd (ns_kd a0 = 8) <| cl2 (g_N_isWithin σ x1 (1 : Int32) (60 : Int32)) fun r24 σ23 => ite2 (r24 = 0) (cl2 (g_N_refuse σ23 a0 (-2 : Int32)) fun r44 σ43 => some (r44, σ43)) (drf (σ23.2.2 a0 0) fun b26 => grd (ns_kd b26 = 7) <| ite2 (0 < (σ23.1 b26 2)) (cl2 (g_N_refuse σ23 a0 (-5 : Int32)) fun r29 σ28 => some (r29, σ28)) (drf (σ23.2.2 a0 0) fun b30 => grd (ns_kd b30 = 7) <| drf (σ23.2.2 b30 0) fun b31 => grd (ns_kd b31 = 1) <| cl2 (g_Ground_highest σ23 b31) fun r33 σ32 => ite2 (r33 ≤ x1) (drf (σ32.2.2 a0 0) fun b35 => grd (ns_kd b35 = 7) <| drf (σ32.2.2 b35 0) fun b36 => grd (ns_kd b36 = 1) <| bnd (σ32.1 b36 0) fun z37 => drf (σ32.2.2 a0 0) fun b38 => grd (ns_kd b38 = 7) <| drf (σ32.2.2 b38 0) fun b39 => grd (ns_kd b39 = 1) <| bnd (ns_pI σ32 b39 0 x1) fun σ40 => some (z37, σ40)) (cl2 (g_N_refuse σ32 a0 (-5 : Int32)) fun r42 σ41 => some (r42, σ41))))
theorem c_N_length (G : ns_G) (l : Launch) (σ : ns_St) (a0 : Nat) (x1 : Int32) {r : Int32} {σ' : ns_St} (hf : g_N_length σ a0 x1 = some (r, σ')) : ns_ok G l ⟨"NinthStep", "length", "(I)I"⟩ prog_1_method_9_code 3 (some .int) 4 84 0 0 [.ref (G.1 + a0), .int x1] ns_N σ (some (.int r)) ns_N σ' := by
  refine v_open (by decide) (Nat.le_of_ble_eq_true rfl) rfl ?_
  intro p e s m below meth c C hr _
  have C : ns_Cx G p s m _ meth c prog_1_method_9_code "NinthStep" 3 := C
  unfold g_N_length at hf
  obtain ⟨hk_a0, hf⟩ := grd_e hf
  refine v_iload_n C 1 1 rfl 1 rfl (by decide +kernel) ?_
  refine v_iconst C (1) (1) (by decide) 2 rfl (by decide +kernel) ?_
  refine v_bipush C (60) (60) (by decide) 4 rfl (by decide +kernel) ?_
  obtain ⟨r24, σ23, hcr24, hf⟩ := cl2_e hf
  refine v_cS C [.int x1, .int (1 : Int32), .int (60 : Int32)] [] (c_N_isWithin G l σ x1 (1 : Int32) (60 : Int32) hcr24) 75 3 tw_334 tw_332 tw_333 tw_1 hd_N_isWithin rfl ⟨(Nat.le_of_ble_eq_true rfl), (Nat.le_of_ble_eq_true rfl)⟩ ⟨(Nat.le_of_ble_eq_true rfl), (Nat.le_of_ble_eq_true rfl)⟩ (Nat.le_of_ble_eq_true rfl) rfl 7 rfl (by decide +kernel) [.int r24] rfl ?_
  refine v_if_ne C 17 10 rfl (by decide +kernel) (fun h25 => ?_) (fun h25 => ?_)
  · have hf := ite2_f hf h25
    refine v_aload_n C 0 0 rfl 18 rfl (by decide +kernel) ?_
    obtain ⟨b26, hb26, hf⟩ := drf_e hf
    obtain ⟨hk_b26, hf⟩ := grd_e hf
    refine v_getR C 8 0 hb26 rfl nin_8 (ns_kd_lt hk_a0 (by decide)) hk_a0 (by decide) (by decide) rfl 12 tw_287 rfl 21 rfl (by decide +kernel) ?_
    refine v_getIN C 7 2 rfl nin_7 (ns_kd_lt hk_b26 (by decide)) hk_b26 (by decide) (by decide) rfl 135 tw_135 rfl 24 rfl (by decide +kernel) ?_
    refine v_if_gt C 41 27 rfl (by decide +kernel) (fun h27 => ?_) (fun h27 => ?_)
    · have hf := ite2_t hf h27
      refine v_aload_n C 0 0 rfl 42 rfl (by decide +kernel) ?_
      refine v_bipush C (-5) (-5) (by decide) 44 rfl (by decide +kernel) ?_
      obtain ⟨r29, σ28, hcr29, hf⟩ := cl2_e hf
      refine v_cV C 8 rfl (ns_kd_lt hk_a0 (by decide)) hk_a0 (by decide) [.int (-5 : Int32)] [] (c_N_refuse G l σ23 a0 (-5 : Int32) hcr29) 79 1 tw_338 tw_335 tw_337 ts_1 tw_1 hd_N_refuse rfl ⟨(Nat.le_of_ble_eq_true rfl), (Nat.le_of_ble_eq_true rfl)⟩ ⟨(Nat.le_of_ble_eq_true rfl), (Nat.le_of_ble_eq_true rfl)⟩ (Nat.le_of_ble_eq_true rfl) rfl 47 rfl (by decide +kernel) [.int r29] rfl ?_
      obtain ⟨rfl, rfl⟩ := ret_e hf
      exact v_iret C hr (by decide +kernel)
    · have hf := ite2_f hf h27
      refine v_aload_n C 0 0 rfl 28 rfl (by decide +kernel) ?_
      obtain ⟨b30, hb30, hf⟩ := drf_e hf
      obtain ⟨hk_b30, hf⟩ := grd_e hf
      refine v_getR C 8 0 hb30 rfl nin_8 (ns_kd_lt hk_a0 (by decide)) hk_a0 (by decide) (by decide) rfl 12 tw_287 rfl 31 rfl (by decide +kernel) ?_
      obtain ⟨b31, hb31, hf⟩ := drf_e hf
      obtain ⟨hk_b31, hf⟩ := grd_e hf
      refine v_getRN C 7 0 hb31 rfl nin_7 (ns_kd_lt hk_b30 (by decide)) hk_b30 (by decide) (by decide) rfl 138 tw_128 rfl 34 rfl (by decide +kernel) ?_
      obtain ⟨r33, σ32, hcr33, hf⟩ := cl2_e hf
      refine v_cVN C 1 rfl (ns_kd_lt hk_b31 (by decide)) hk_b31 (by decide) [] [] (c_Ground_highest G l σ23 b31 hcr33) 142 0 tw_431 tw_428 tw_430 ts_9 tw_3 hd_Ground_highest rfl ⟨(Nat.le_of_ble_eq_true rfl), (Nat.le_of_ble_eq_true rfl)⟩ ⟨(Nat.le_of_ble_eq_true rfl), (Nat.le_of_ble_eq_true rfl)⟩ (Nat.le_of_ble_eq_true rfl) rfl 37 rfl (by decide +kernel) [.int r33] rfl ?_
      refine v_iload_n C 1 1 rfl 38 rfl (by decide +kernel) ?_
      refine v_icmp_le C 48 41 rfl (by decide +kernel) (fun h34 => ?_) (fun h34 => ?_)
      · have hf := ite2_t hf h34
        refine v_aload_n C 0 0 rfl 49 rfl (by decide +kernel) ?_
        obtain ⟨b35, hb35, hf⟩ := drf_e hf
        obtain ⟨hk_b35, hf⟩ := grd_e hf
        refine v_getR C 8 0 hb35 rfl nin_8 (ns_kd_lt hk_a0 (by decide)) hk_a0 (by decide) (by decide) rfl 12 tw_287 rfl 52 rfl (by decide +kernel) ?_
        obtain ⟨b36, hb36, hf⟩ := drf_e hf
        obtain ⟨hk_b36, hf⟩ := grd_e hf
        refine v_getRN C 7 0 hb36 rfl nin_7 (ns_kd_lt hk_b35 (by decide)) hk_b35 (by decide) (by decide) rfl 138 tw_128 rfl 55 rfl (by decide +kernel) ?_
        refine v_getIN C 1 0 rfl nin_1 (ns_kd_lt hk_b36 (by decide)) hk_b36 (by decide) (by decide) rfl 147 tw_45 rfl 58 rfl (by decide +kernel) ?_
        obtain ⟨z37, hz37, hf⟩ := bnd_e hf
        refine v_nmI hz37 ?_
        refine v_istore_n C 2 [(2, .int z37), (0, .ref (G.1 + a0)), (1, .int x1)] (by decide) rfl 59 rfl (by decide +kernel) ?_
        refine v_aload_n C 0 1 rfl 60 rfl (by decide +kernel) ?_
        obtain ⟨b38, hb38, hf⟩ := drf_e hf
        obtain ⟨hk_b38, hf⟩ := grd_e hf
        refine v_getR C 8 0 hb38 rfl nin_8 (ns_kd_lt hk_a0 (by decide)) hk_a0 (by decide) (by decide) rfl 12 tw_287 rfl 63 rfl (by decide +kernel) ?_
        obtain ⟨b39, hb39, hf⟩ := drf_e hf
        obtain ⟨hk_b39, hf⟩ := grd_e hf
        refine v_getRN C 7 0 hb39 rfl nin_7 (ns_kd_lt hk_b38 (by decide)) hk_b38 (by decide) (by decide) rfl 138 tw_128 rfl 66 rfl (by decide +kernel) ?_
        refine v_iload_n C 1 2 rfl 67 rfl (by decide +kernel) ?_
        obtain ⟨σ40, hσ40, hf⟩ := bnd_e hf
        refine v_putIN C 1 0 hσ40 rfl nin_1 ny_1 nty_1 nnm_1 (ns_kd_lt hk_b39 (by decide)) hk_b39 (by decide) (by decide) rfl rfl rfl rfl 147 tw_45 rfl 70 rfl (by decide +kernel) ?_
        refine v_iload_n C 2 0 rfl 71 rfl (by decide +kernel) ?_
        obtain ⟨rfl, rfl⟩ := ret_e hf
        exact v_iret C hr (by decide +kernel)
      · have hf := ite2_f hf h34
        refine v_aload_n C 0 0 rfl 42 rfl (by decide +kernel) ?_
        refine v_bipush C (-5) (-5) (by decide) 44 rfl (by decide +kernel) ?_
        obtain ⟨r42, σ41, hcr42, hf⟩ := cl2_e hf
        refine v_cV C 8 rfl (ns_kd_lt hk_a0 (by decide)) hk_a0 (by decide) [.int (-5 : Int32)] [] (c_N_refuse G l σ32 a0 (-5 : Int32) hcr42) 79 1 tw_338 tw_335 tw_337 ts_1 tw_1 hd_N_refuse rfl ⟨(Nat.le_of_ble_eq_true rfl), (Nat.le_of_ble_eq_true rfl)⟩ ⟨(Nat.le_of_ble_eq_true rfl), (Nat.le_of_ble_eq_true rfl)⟩ (Nat.le_of_ble_eq_true rfl) rfl 47 rfl (by decide +kernel) [.int r42] rfl ?_
        obtain ⟨rfl, rfl⟩ := ret_e hf
        exact v_iret C hr (by decide +kernel)
  · have hf := ite2_t hf h25
    refine v_aload_n C 0 0 rfl 11 rfl (by decide +kernel) ?_
    refine v_bipush C (-2) (-2) (by decide) 13 rfl (by decide +kernel) ?_
    obtain ⟨r44, σ43, hcr44, hf⟩ := cl2_e hf
    refine v_cV C 8 rfl (ns_kd_lt hk_a0 (by decide)) hk_a0 (by decide) [.int (-2 : Int32)] [] (c_N_refuse G l σ23 a0 (-2 : Int32) hcr44) 79 1 tw_338 tw_335 tw_337 ts_1 tw_1 hd_N_refuse rfl ⟨(Nat.le_of_ble_eq_true rfl), (Nat.le_of_ble_eq_true rfl)⟩ ⟨(Nat.le_of_ble_eq_true rfl), (Nat.le_of_ble_eq_true rfl)⟩ (Nat.le_of_ble_eq_true rfl) rfl 16 rfl (by decide +kernel) [.int r44] rfl ?_
    obtain ⟨rfl, rfl⟩ := ret_e hf
    exact v_iret C hr (by decide +kernel)
theorem hd_N_length : (⟨"NinthStep", "length", "(I)I"⟩ : MethodName).cls = "NinthStep" ∧ (⟨"NinthStep", "length", "(I)I"⟩ : MethodName).cls ≠ "java/lang/invoke/MethodHandle" ∧ (⟨"NinthStep", "length", "(I)I"⟩ : MethodName).cls ≠ "java/lang/invoke/VarHandle" ∧ (parseMethodDescriptor (⟨"NinthStep", "length", "(I)I"⟩ : MethodName).desc).map (fun d => d.parameters.length) = some 1 := by decide +kernel
def g_N_isPlace (σ : ns_St) (a0 : Nat) (x1 : Int32) : Option (Int32 × ns_St) := grd (ns_kd a0 = 8) <| drf (σ.2.2 a0 0) fun b6 => grd (ns_kd b6 = 7) <| drf (σ.2.2 b6 0) fun b7 => grd (ns_kd b7 = 1) <| cl2 (g_N_isWithin σ x1 (0 : Int32) (σ.1 b7 0)) fun r9 σ8 => grd (r9 = 0 ∨ r9 = 1) <| some (r9, σ8)
theorem c_N_isPlace (G : ns_G) (l : Launch) (σ : ns_St) (a0 : Nat) (x1 : Int32) {r : Int32} {σ' : ns_St} (hf : g_N_isPlace σ a0 x1 = some (r, σ')) : ns_ok G l ⟨"NinthStep", "isPlace", "(I)Z"⟩ prog_1_method_51_code 2 (some .boolean) 1 22 0 0 [.ref (G.1 + a0), .int x1] ns_N σ (some (.int r)) ns_N σ' := by
  refine v_open (by decide) (Nat.le_of_ble_eq_true rfl) rfl ?_
  intro p e s m below meth c C hr _
  have C : ns_Cx G p s m _ meth c prog_1_method_51_code "NinthStep" 2 := C
  unfold g_N_isPlace at hf
  obtain ⟨hk_a0, hf⟩ := grd_e hf
  refine v_iload_n C 1 1 rfl 1 rfl (by decide +kernel) ?_
  refine v_iconst C (0) (0) (by decide) 2 rfl (by decide +kernel) ?_
  refine v_aload_n C 0 0 rfl 3 rfl (by decide +kernel) ?_
  obtain ⟨b6, hb6, hf⟩ := drf_e hf
  obtain ⟨hk_b6, hf⟩ := grd_e hf
  refine v_getR C 8 0 hb6 rfl nin_8 (ns_kd_lt hk_a0 (by decide)) hk_a0 (by decide) (by decide) rfl 12 tw_287 rfl 6 rfl (by decide +kernel) ?_
  obtain ⟨b7, hb7, hf⟩ := drf_e hf
  obtain ⟨hk_b7, hf⟩ := grd_e hf
  refine v_getRN C 7 0 hb7 rfl nin_7 (ns_kd_lt hk_b6 (by decide)) hk_b6 (by decide) (by decide) rfl 138 tw_128 rfl 9 rfl (by decide +kernel) ?_
  refine v_getIN C 1 0 rfl nin_1 (ns_kd_lt hk_b7 (by decide)) hk_b7 (by decide) (by decide) rfl 147 tw_45 rfl 12 rfl (by decide +kernel) ?_
  obtain ⟨r9, σ8, hcr9, hf⟩ := cl2_e hf
  refine v_cS C [.int x1, .int (0 : Int32), .int (σ.1 b7 0)] [] (c_N_isWithin G l σ x1 (0 : Int32) (σ.1 b7 0) hcr9) 75 3 tw_334 tw_332 tw_333 tw_1 hd_N_isWithin rfl ⟨(Nat.le_of_ble_eq_true rfl), (Nat.le_of_ble_eq_true rfl)⟩ ⟨(Nat.le_of_ble_eq_true rfl), (Nat.le_of_ble_eq_true rfl)⟩ (Nat.le_of_ble_eq_true rfl) rfl 15 rfl (by decide +kernel) [.int r9] rfl ?_
  obtain ⟨hz10, hf⟩ := grd_e hf
  obtain ⟨rfl, rfl⟩ := ret_e hf
  exact v_zret C hr (ns_z01 hz10) (by decide +kernel)
theorem hd_N_isPlace : (⟨"NinthStep", "isPlace", "(I)Z"⟩ : MethodName).cls = "NinthStep" ∧ (⟨"NinthStep", "isPlace", "(I)Z"⟩ : MethodName).cls ≠ "java/lang/invoke/MethodHandle" ∧ (⟨"NinthStep", "isPlace", "(I)Z"⟩ : MethodName).cls ≠ "java/lang/invoke/VarHandle" ∧ (parseMethodDescriptor (⟨"NinthStep", "isPlace", "(I)Z"⟩ : MethodName).desc).map (fun d => d.parameters.length) = some 1 := by decide +kernel
def g_N_isIn (σ : ns_St) (x0 : Int64) (x2 : Int32) : Option (Int32 × ns_St) := ite2 ((lg_cmp (((x0.toUInt64 >>> (x2.toInt64.toUInt64 &&& Int64.toUInt64 63)).toInt64) &&& (1 : Int64)) (0 : Int64)) = 0) (some ((0 : Int32), σ)) (some ((1 : Int32), σ))
theorem c_N_isIn (G : ns_G) (l : Launch) (σ : ns_St) (x0 : Int64) (x2 : Int32) {r : Int32} {σ' : ns_St} (hf : g_N_isIn σ x0 x2 = some (r, σ')) : ns_ok G l ⟨"NinthStep", "isIn", "(JI)Z"⟩ prog_1_method_70_code 3 (some .boolean) 0 0 0 0 [.long x0, .int x2] ns_N σ (some (.int r)) ns_N σ' := by
  refine v_open (by decide) (Nat.le_of_ble_eq_true rfl) rfl ?_
  intro p e s m below meth c C hr _
  have C : ns_Cx G p s m _ meth c prog_1_method_70_code "NinthStep" 3 := C
  unfold g_N_isIn at hf
  refine v_lload_n C 0 0 rfl 1 rfl (by decide +kernel) ?_
  refine v_iload_n C 2 1 rfl 2 rfl (by decide +kernel) ?_
  refine v_lushr C 3 rfl (by decide +kernel) ?_
  refine v_lconst C 1 (1) (by decide) 4 rfl (by decide +kernel) ?_
  refine v_land C 5 rfl (by decide +kernel) ?_
  refine v_lconst C 0 (0) (by decide) 6 rfl (by decide +kernel) ?_
  refine v_lcmp C 7 rfl (by decide +kernel) ?_
  refine v_if_eq C 14 10 rfl (by decide +kernel) (fun h2 => ?_) (fun h2 => ?_)
  · have hf := ite2_t hf h2
    refine v_iconst C (0) (0) (by decide) 15 rfl (by decide +kernel) ?_
    obtain ⟨rfl, rfl⟩ := ret_e hf
    exact v_zret C hr rfl (by decide +kernel)
  · have hf := ite2_f hf h2
    refine v_iconst C (1) (1) (by decide) 11 rfl (by decide +kernel) ?_
    refine v_goto C 15 (by decide +kernel) ?_
    obtain ⟨rfl, rfl⟩ := ret_e hf
    exact v_zret C hr rfl (by decide +kernel)
theorem hd_N_isIn : (⟨"NinthStep", "isIn", "(JI)Z"⟩ : MethodName).cls ≠ "java/lang/invoke/MethodHandle" ∧ (⟨"NinthStep", "isIn", "(JI)Z"⟩ : MethodName).cls ≠ "java/lang/invoke/VarHandle" ∧ (parseMethodDescriptor (⟨"NinthStep", "isIn", "(JI)Z"⟩ : MethodName).desc).map (fun d => d.parameters.length) = some 2 := by decide +kernel
def g_Ground_forbids_16  (σ : ns_St) (a0 : Nat) (x1 : Int32) (x2 : Int32) : Option (Int32 × ns_St) := ite2 (x1 = (3 : Int32)) (cl2 (g_N_isIn σ (σ.2.1 a0 3) x2) fun r11 σ10 => ite2 (r11 = 0) (some ((0 : Int32), σ10)) (some ((1 : Int32), σ10))) (some ((0 : Int32), σ))
def g_Ground_forbids (σ : ns_St) (a0 : Nat) (x1 : Int32) (x2 : Int32) : Option (Int32 × ns_St) := grd (ns_kd a0 = 1) <| ite2 (x1 = (2 : Int32)) (cl2 (g_N_isIn σ (σ.2.1 a0 4) x2) fun r15 σ14 => ite2 (r15 = 0) (g_Ground_forbids_16 σ14 a0 x1 x2) (some ((1 : Int32), σ14))) (g_Ground_forbids_16 σ a0 x1 x2)
theorem t_Ground_forbids_16 (G : ns_G) (l : Launch) {p : Program} {e : Env} {s : State} {m : MethodId} {args : Array Value} {below : List Frame} {meth : Method} {c : Code} (C : ns_Cx G p s m args meth c prog_3_method_5_code "NinthStep$Ground" 3) (hr : meth.sig.returnType = (some .boolean)) {r : Int32} {σ' : ns_St}  (σ : ns_St) (a0 : Nat) (x1 : Int32) (x2 : Int32) (hk_a0 : ns_kd a0 = 1) (hf : g_Ground_forbids_16 σ a0 x1 x2 = some (r, σ')) : VV G p l e { frames := 1, cells := 0, slots := 0, locals := 22 } s m args below meth c 3 0 0 (MQ below (ns_Qc G (some (.int r)) ns_N σ') args s 0 0 (ns_A G)) ns_N σ 16 [(0, .ref (G.1 + a0)), (1, .int x1), (2, .int x2)] [] := by
  unfold g_Ground_forbids_16 at hf
  refine v_iload_n C 1 1 rfl 17 rfl (by decide +kernel) ?_
  refine v_iconst C (3) (3) (by decide) 18 rfl (by decide +kernel) ?_
  refine v_icmp_ne C 36 21 rfl (by decide +kernel) (fun h9 => ?_) (fun h9 => ?_)
  · have hf := ite2_f hf h9
    refine v_iconst C (0) (0) (by decide) 37 rfl (by decide +kernel) ?_
    obtain ⟨rfl, rfl⟩ := ret_e hf
    exact v_zret C hr rfl (by decide +kernel)
  · have hf := ite2_t hf h9
    refine v_aload_n C 0 0 rfl 22 rfl (by decide +kernel) ?_
    refine v_getJ C 1 3 rfl nin_1 (ns_kd_lt hk_a0 (by decide)) hk_a0 (by decide) (by decide) rfl 22 tw_54 rfl 25 rfl (by decide +kernel) ?_
    refine v_iload_n C 2 2 rfl 26 rfl (by decide +kernel) ?_
    obtain ⟨r11, σ10, hcr11, hf⟩ := cl2_e hf
    refine v_cSN C [.long (σ.2.1 a0 3), .int x2] [] (c_N_isIn G l σ (σ.2.1 a0 3) x2 hcr11) 37 2 tw_455 tw_453 tw_454 tw_1 hd_N_isIn rfl ⟨(Nat.le_of_ble_eq_true rfl), (Nat.le_of_ble_eq_true rfl)⟩ ⟨(Nat.le_of_ble_eq_true rfl), (Nat.le_of_ble_eq_true rfl)⟩ (Nat.le_of_ble_eq_true rfl) rfl 29 rfl (by decide +kernel) [.int r11] rfl ?_
    refine v_if_eq C 36 32 rfl (by decide +kernel) (fun h12 => ?_) (fun h12 => ?_)
    · have hf := ite2_t hf h12
      refine v_iconst C (0) (0) (by decide) 37 rfl (by decide +kernel) ?_
      obtain ⟨rfl, rfl⟩ := ret_e hf
      exact v_zret C hr rfl (by decide +kernel)
    · have hf := ite2_f hf h12
      refine v_iconst C (1) (1) (by decide) 33 rfl (by decide +kernel) ?_
      refine v_goto C 37 (by decide +kernel) ?_
      obtain ⟨rfl, rfl⟩ := ret_e hf
      exact v_zret C hr rfl (by decide +kernel)
theorem c_Ground_forbids (G : ns_G) (l : Launch) (σ : ns_St) (a0 : Nat) (x1 : Int32) (x2 : Int32) {r : Int32} {σ' : ns_St} (hf : g_Ground_forbids σ a0 x1 x2 = some (r, σ')) : ns_ok G l ⟨"NinthStep$Ground", "forbids", "(II)Z"⟩ prog_3_method_5_code 3 (some .boolean) 1 22 0 0 [.ref (G.1 + a0), .int x1, .int x2] ns_N σ (some (.int r)) ns_N σ' := by
  refine v_open (by decide) (Nat.le_of_ble_eq_true rfl) rfl ?_
  intro p e s m below meth c C hr _
  have C : ns_Cx G p s m _ meth c prog_3_method_5_code "NinthStep$Ground" 3 := C
  unfold g_Ground_forbids at hf
  obtain ⟨hk_a0, hf⟩ := grd_e hf
  refine v_iload_n C 1 1 rfl 1 rfl (by decide +kernel) ?_
  refine v_iconst C (2) (2) (by decide) 2 rfl (by decide +kernel) ?_
  refine v_icmp_ne C 16 5 rfl (by decide +kernel) (fun h13 => ?_) (fun h13 => ?_)
  · have hf := ite2_f hf h13
    exact t_Ground_forbids_16 G l C hr  σ a0 x1 x2 hk_a0 hf
  · have hf := ite2_t hf h13
    refine v_aload_n C 0 0 rfl 6 rfl (by decide +kernel) ?_
    refine v_getJ C 1 4 rfl nin_1 (ns_kd_lt hk_a0 (by decide)) hk_a0 (by decide) (by decide) rfl 25 tw_61 rfl 9 rfl (by decide +kernel) ?_
    refine v_iload_n C 2 2 rfl 10 rfl (by decide +kernel) ?_
    obtain ⟨r15, σ14, hcr15, hf⟩ := cl2_e hf
    refine v_cSN C [.long (σ.2.1 a0 4), .int x2] [] (c_N_isIn G l σ (σ.2.1 a0 4) x2 hcr15) 37 2 tw_455 tw_453 tw_454 tw_1 hd_N_isIn rfl ⟨(Nat.le_of_ble_eq_true rfl), (Nat.le_of_ble_eq_true rfl)⟩ ⟨(Nat.le_of_ble_eq_true rfl), (Nat.le_of_ble_eq_true rfl)⟩ (Nat.le_of_ble_eq_true rfl) rfl 13 rfl (by decide +kernel) [.int r15] rfl ?_
    refine v_if_ne C 32 16 rfl (by decide +kernel) (fun h16 => ?_) (fun h16 => ?_)
    · have hf := ite2_f hf h16
      refine v_iconst C (1) (1) (by decide) 33 rfl (by decide +kernel) ?_
      refine v_goto C 37 (by decide +kernel) ?_
      obtain ⟨rfl, rfl⟩ := ret_e hf
      exact v_zret C hr rfl (by decide +kernel)
    · have hf := ite2_t hf h16
      exact t_Ground_forbids_16 G l C hr  σ14 a0 x1 x2 hk_a0 hf
theorem hd_Ground_forbids : (⟨"NinthStep$Ground", "forbids", "(II)Z"⟩ : MethodName).cls = "NinthStep$Ground" ∧ (⟨"NinthStep$Ground", "forbids", "(II)Z"⟩ : MethodName).cls ≠ "java/lang/invoke/MethodHandle" ∧ (⟨"NinthStep$Ground", "forbids", "(II)Z"⟩ : MethodName).cls ≠ "java/lang/invoke/VarHandle" ∧ (parseMethodDescriptor (⟨"NinthStep$Ground", "forbids", "(II)Z"⟩ : MethodName).desc).map (fun d => d.parameters.length) = some 2 := by decide +kernel
def g_Ground_allOf (σ : ns_St) (a0 : Nat) (x1 : Int32) : Option (Int64 × ns_St) := grd (ns_kd a0 = 1) <| ite2 (x1 = 0) (some ((σ.2.1 a0 1), σ)) (ite2 (x1 = 1) (some ((σ.2.1 a0 2), σ)) (ite2 (x1 = 2) (some ((σ.2.1 a0 3), σ)) (some ((σ.2.1 a0 4), σ))))
theorem c_Ground_allOf (G : ns_G) (l : Launch) (σ : ns_St) (a0 : Nat) (x1 : Int32) {r : Int64} {σ' : ns_St} (hf : g_Ground_allOf σ a0 x1 = some (r, σ')) : ns_ok G l ⟨"NinthStep$Ground", "allOf", "(I)J"⟩ prog_3_method_3_code 2 (some .long) 0 0 0 0 [.ref (G.1 + a0), .int x1] ns_N σ (some (.long r)) ns_N σ' := by
  refine v_open (by decide) (Nat.le_of_ble_eq_true rfl) rfl ?_
  intro p e s m below meth c C hr _
  have C : ns_Cx G p s m _ meth c prog_3_method_3_code "NinthStep$Ground" 2 := C
  unfold g_Ground_allOf at hf
  obtain ⟨hk_a0, hf⟩ := grd_e hf
  refine v_iload_n C 1 1 rfl 1 rfl (by decide +kernel) ?_
  by_cases h4 : x1 = 0
  · have hf := ite2_t hf h4
    refine v_tswI C (42) (0) (2) #[(27), (32), (37)] 27 28 (0) h4 (by decide) (by decide) (27) (by decide) (by decide) (by decide +kernel) ?_
    refine v_aload_n C 0 0 rfl 29 rfl (by decide +kernel) ?_
    refine v_getJ C 1 1 rfl nin_1 (ns_kd_lt hk_a0 (by decide)) hk_a0 (by decide) (by decide) rfl 15 tw_46 rfl 32 rfl (by decide +kernel) ?_
    obtain ⟨rfl, rfl⟩ := ret_e hf
    exact v_lret C hr (by decide +kernel)
  · have hf := ite2_f hf h4
    by_cases h5 : x1 = 1
    · have hf := ite2_t hf h5
      refine v_tswI C (42) (0) (2) #[(27), (32), (37)] 27 33 (1) h5 (by decide) (by decide) (32) (by decide) (by decide) (by decide +kernel) ?_
      refine v_aload_n C 0 0 rfl 34 rfl (by decide +kernel) ?_
      refine v_getJ C 1 2 rfl nin_1 (ns_kd_lt hk_a0 (by decide)) hk_a0 (by decide) (by decide) rfl 19 tw_51 rfl 37 rfl (by decide +kernel) ?_
      obtain ⟨rfl, rfl⟩ := ret_e hf
      exact v_lret C hr (by decide +kernel)
    · have hf := ite2_f hf h5
      by_cases h6 : x1 = 2
      · have hf := ite2_t hf h6
        refine v_tswI C (42) (0) (2) #[(27), (32), (37)] 27 38 (2) h6 (by decide) (by decide) (37) (by decide) (by decide) (by decide +kernel) ?_
        refine v_aload_n C 0 0 rfl 39 rfl (by decide +kernel) ?_
        refine v_getJ C 1 3 rfl nin_1 (ns_kd_lt hk_a0 (by decide)) hk_a0 (by decide) (by decide) rfl 22 tw_54 rfl 42 rfl (by decide +kernel) ?_
        obtain ⟨rfl, rfl⟩ := ret_e hf
        exact v_lret C hr (by decide +kernel)
      · have hf := ite2_f hf h6
        refine v_tswO C (42) (0) (2) #[(27), (32), (37)] 27 43 (ns_out x1 (0) (2) (fun k h1 h2 => by
          have h3 : k = 0 ∨ k = 1 ∨ k = 2 := by omega
          rcases h3 with rfl | rfl | rfl
          · exact h4
          · exact h5
          · exact h6)) (by decide) (by decide +kernel) ?_
        refine v_aload_n C 0 0 rfl 44 rfl (by decide +kernel) ?_
        refine v_getJ C 1 4 rfl nin_1 (ns_kd_lt hk_a0 (by decide)) hk_a0 (by decide) (by decide) rfl 25 tw_61 rfl 47 rfl (by decide +kernel) ?_
        obtain ⟨rfl, rfl⟩ := ret_e hf
        exact v_lret C hr (by decide +kernel)
theorem hd_Ground_allOf : (⟨"NinthStep$Ground", "allOf", "(I)J"⟩ : MethodName).cls = "NinthStep$Ground" ∧ (⟨"NinthStep$Ground", "allOf", "(I)J"⟩ : MethodName).cls ≠ "java/lang/invoke/MethodHandle" ∧ (⟨"NinthStep$Ground", "allOf", "(I)J"⟩ : MethodName).cls ≠ "java/lang/invoke/VarHandle" ∧ (parseMethodDescriptor (⟨"NinthStep$Ground", "allOf", "(I)J"⟩ : MethodName).desc).map (fun d => d.parameters.length) = some 1 := by decide +kernel
def g_N_bit (σ : ns_St) (x0 : Int32) : Option (Int64 × ns_St) := some (((1 : Int64) <<< (x0.toInt64 &&& 63)), σ)
theorem c_N_bit (G : ns_G) (l : Launch) (σ : ns_St) (x0 : Int32) {r : Int64} {σ' : ns_St} (hf : g_N_bit σ x0 = some (r, σ')) : ns_ok G l ⟨"NinthStep", "bit", "(I)J"⟩ prog_1_method_72_code 1 (some .long) 0 0 0 0 [.int x0] ns_N σ (some (.long r)) ns_N σ' := by
  refine v_open (by decide) (Nat.le_of_ble_eq_true rfl) rfl ?_
  intro p e s m below meth c C hr _
  have C : ns_Cx G p s m _ meth c prog_1_method_72_code "NinthStep" 1 := C
  unfold g_N_bit at hf
  refine v_lconst C 1 (1) (by decide) 1 rfl (by decide +kernel) ?_
  refine v_iload_n C 0 0 rfl 2 rfl (by decide +kernel) ?_
  refine v_lshl C 3 rfl (by decide +kernel) ?_
  obtain ⟨rfl, rfl⟩ := ret_e hf
  exact v_lret C hr (by decide +kernel)
theorem hd_N_bit : (⟨"NinthStep", "bit", "(I)J"⟩ : MethodName).cls ≠ "java/lang/invoke/MethodHandle" ∧ (⟨"NinthStep", "bit", "(I)J"⟩ : MethodName).cls ≠ "java/lang/invoke/VarHandle" ∧ (parseMethodDescriptor (⟨"NinthStep", "bit", "(I)J"⟩ : MethodName).desc).map (fun d => d.parameters.length) = some 1 := by decide +kernel
def g_Ground_mark_31  (σ : ns_St) (s0 : Int64) (a0 : Nat) (x1 : Int32) : Option (Unit × ns_St) := ite2 (x1 = 0) (bnd (ns_pJ σ a0 1 s0) fun σ18 => some ((), σ18)) (ite2 (x1 = 1) (bnd (ns_pJ σ a0 2 s0) fun σ20 => some ((), σ20)) (ite2 (x1 = 2) (bnd (ns_pJ σ a0 3 s0) fun σ22 => some ((), σ22)) (bnd (ns_pJ σ a0 4 s0) fun σ23 => some ((), σ23))))
def g_Ground_mark (σ : ns_St) (a0 : Nat) (x1 : Int32) (x2 : Int32) (x3 : Int32) : Option (Unit × ns_St) := grd (ns_kd a0 = 1) <| ite2 (x3 = 0) (cl2 (g_Ground_allOf σ a0 x1) fun r26 σ25 => cl2 (g_N_bit σ25 x2) fun r28 σ27 => g_Ground_mark_31 σ27 (r26 &&& (r28 ^^^ (-1 : Int64))) a0 x1) (cl2 (g_Ground_allOf σ a0 x1) fun r30 σ29 => cl2 (g_N_bit σ29 x2) fun r32 σ31 => g_Ground_mark_31 σ31 (r30 ||| r32) a0 x1)
theorem t_Ground_mark_31 (G : ns_G) (l : Launch) {p : Program} {e : Env} {s : State} {m : MethodId} {args : Array Value} {below : List Frame} {meth : Method} {c : Code} (C : ns_Cx G p s m args meth c prog_3_method_4_code "NinthStep$Ground" 6) (hr : meth.sig.returnType = none) {r : Unit} {σ' : ns_St}  (σ : ns_St) (s0 : Int64) (a0 : Nat) (x1 : Int32) (hk_a0 : ns_kd a0 = 1) (hf : g_Ground_mark_31 σ s0 a0 x1 = some (r, σ')) : VV G p l e { frames := 1, cells := 0, slots := 0, locals := 21 } s m args below meth c 6 0 0 (MQ below (ns_Qc G none ns_N σ') args s 0 0 (ns_A G)) ns_N σ 31 [(0, .ref (G.1 + a0)), (1, .int x1)] [.long s0] := by
  unfold g_Ground_mark_31 at hf
  refine v_lstore C 4 [(4, .long s0), (0, .ref (G.1 + a0)), (1, .int x1)] (by decide) rfl 33 rfl (by decide +kernel) ?_
  refine v_iload_n C 1 2 rfl 34 rfl (by decide +kernel) ?_
  by_cases h17 : x1 = 0
  · have hf := ite2_t hf h17
    refine v_tswI C (53) (0) (2) #[(26), (35), (44)] 26 60 (0) h17 (by decide) (by decide) (26) (by decide) (by decide) (by decide +kernel) ?_
    refine v_aload_n C 0 1 rfl 61 rfl (by decide +kernel) ?_
    refine v_lload C 4 0 rfl 63 rfl (by decide +kernel) ?_
    obtain ⟨σ18, hσ18, hf⟩ := bnd_e hf
    refine v_putJ C 1 1 hσ18 rfl nin_1 ny_1 nty_1 nnm_1 (ns_kd_lt hk_a0 (by decide)) hk_a0 (by decide) (by decide) rfl rfl rfl rfl 15 tw_46 rfl 66 rfl (by decide +kernel) ?_
    refine v_goto C 93 (by decide +kernel) ?_
    obtain ⟨rfl, rfl⟩ := ret_e hf
    exact v_vret C hr (by decide +kernel)
  · have hf := ite2_f hf h17
    by_cases h19 : x1 = 1
    · have hf := ite2_t hf h19
      refine v_tswI C (53) (0) (2) #[(26), (35), (44)] 26 69 (1) h19 (by decide) (by decide) (35) (by decide) (by decide) (by decide +kernel) ?_
      refine v_aload_n C 0 1 rfl 70 rfl (by decide +kernel) ?_
      refine v_lload C 4 0 rfl 72 rfl (by decide +kernel) ?_
      obtain ⟨σ20, hσ20, hf⟩ := bnd_e hf
      refine v_putJ C 1 2 hσ20 rfl nin_1 ny_1 nty_1 nnm_1 (ns_kd_lt hk_a0 (by decide)) hk_a0 (by decide) (by decide) rfl rfl rfl rfl 19 tw_51 rfl 75 rfl (by decide +kernel) ?_
      refine v_goto C 93 (by decide +kernel) ?_
      obtain ⟨rfl, rfl⟩ := ret_e hf
      exact v_vret C hr (by decide +kernel)
    · have hf := ite2_f hf h19
      by_cases h21 : x1 = 2
      · have hf := ite2_t hf h21
        refine v_tswI C (53) (0) (2) #[(26), (35), (44)] 26 78 (2) h21 (by decide) (by decide) (44) (by decide) (by decide) (by decide +kernel) ?_
        refine v_aload_n C 0 1 rfl 79 rfl (by decide +kernel) ?_
        refine v_lload C 4 0 rfl 81 rfl (by decide +kernel) ?_
        obtain ⟨σ22, hσ22, hf⟩ := bnd_e hf
        refine v_putJ C 1 3 hσ22 rfl nin_1 ny_1 nty_1 nnm_1 (ns_kd_lt hk_a0 (by decide)) hk_a0 (by decide) (by decide) rfl rfl rfl rfl 22 tw_54 rfl 84 rfl (by decide +kernel) ?_
        refine v_goto C 93 (by decide +kernel) ?_
        obtain ⟨rfl, rfl⟩ := ret_e hf
        exact v_vret C hr (by decide +kernel)
      · have hf := ite2_f hf h21
        refine v_tswO C (53) (0) (2) #[(26), (35), (44)] 26 87 (ns_out x1 (0) (2) (fun k h1 h2 => by
          have h3 : k = 0 ∨ k = 1 ∨ k = 2 := by omega
          rcases h3 with rfl | rfl | rfl
          · exact h17
          · exact h19
          · exact h21)) (by decide) (by decide +kernel) ?_
        refine v_aload_n C 0 1 rfl 88 rfl (by decide +kernel) ?_
        refine v_lload C 4 0 rfl 90 rfl (by decide +kernel) ?_
        obtain ⟨σ23, hσ23, hf⟩ := bnd_e hf
        refine v_putJ C 1 4 hσ23 rfl nin_1 ny_1 nty_1 nnm_1 (ns_kd_lt hk_a0 (by decide)) hk_a0 (by decide) (by decide) rfl rfl rfl rfl 25 tw_61 rfl 93 rfl (by decide +kernel) ?_
        obtain ⟨rfl, rfl⟩ := ret_e hf
        exact v_vret C hr (by decide +kernel)
theorem c_Ground_mark (G : ns_G) (l : Launch) (σ : ns_St) (a0 : Nat) (x1 : Int32) (x2 : Int32) (x3 : Int32) {r : Unit} {σ' : ns_St} (hf : g_Ground_mark σ a0 x1 x2 x3 = some (r, σ')) : ns_ok G l ⟨"NinthStep$Ground", "mark", "(IIZ)V"⟩ prog_3_method_4_code 6 none 1 21 0 0 [.ref (G.1 + a0), .int x1, .int x2, .int x3] ns_N σ none ns_N σ' := by
  refine v_open (by decide) (Nat.le_of_ble_eq_true rfl) rfl ?_
  intro p e s m below meth c C hr _
  have C : ns_Cx G p s m _ meth c prog_3_method_4_code "NinthStep$Ground" 6 := C
  unfold g_Ground_mark at hf
  obtain ⟨hk_a0, hf⟩ := grd_e hf
  refine v_iload_n C 3 3 rfl 1 rfl (by decide +kernel) ?_
  refine v_if_eq C 17 4 rfl (by decide +kernel) (fun h24 => ?_) (fun h24 => ?_)
  · have hf := ite2_t hf h24
    refine v_aload_n C 0 0 rfl 18 rfl (by decide +kernel) ?_
    refine v_iload_n C 1 1 rfl 19 rfl (by decide +kernel) ?_
    obtain ⟨r26, σ25, hcr26, hf⟩ := cl2_e hf
    refine v_cV C 1 rfl (ns_kd_lt hk_a0 (by decide)) hk_a0 (by decide) [.int x1] [] (c_Ground_allOf G l σ a0 x1 hcr26) 28 1 tw_459 tw_465 tw_458 ts_12 tw_3 hd_Ground_allOf rfl ⟨(Nat.le_of_ble_eq_true rfl), (Nat.le_of_ble_eq_true rfl)⟩ ⟨(Nat.le_of_ble_eq_true rfl), (Nat.le_of_ble_eq_true rfl)⟩ (Nat.le_of_ble_eq_true rfl) rfl 22 rfl (by decide +kernel) [.long r26] rfl ?_
    refine v_iload_n C 2 2 rfl 23 rfl (by decide +kernel) ?_
    obtain ⟨r28, σ27, hcr28, hf⟩ := cl2_e hf
    refine v_cSN C [.int x2] [.long r26] (c_N_bit G l σ25 x2 hcr28) 32 1 tw_468 tw_466 tw_467 tw_1 hd_N_bit rfl ⟨(Nat.le_of_ble_eq_true rfl), (Nat.le_of_ble_eq_true rfl)⟩ ⟨(Nat.le_of_ble_eq_true rfl), (Nat.le_of_ble_eq_true rfl)⟩ (Nat.le_of_ble_eq_true rfl) rfl 26 rfl (by decide +kernel) [.long r28, .long r26] rfl ?_
    refine v_ldc2 C 35 (-1) tw_469 29 rfl (by decide +kernel) ?_
    refine v_lxor C 30 rfl (by decide +kernel) ?_
    refine v_land C 31 rfl (by decide +kernel) ?_
    refine v_sub [0, 1] rfl ?_
    exact t_Ground_mark_31 G l C hr  σ27 (r26 &&& (r28 ^^^ (-1 : Int64))) a0 x1 hk_a0 hf
  · have hf := ite2_f hf h24
    refine v_aload_n C 0 0 rfl 5 rfl (by decide +kernel) ?_
    refine v_iload_n C 1 1 rfl 6 rfl (by decide +kernel) ?_
    obtain ⟨r30, σ29, hcr30, hf⟩ := cl2_e hf
    refine v_cV C 1 rfl (ns_kd_lt hk_a0 (by decide)) hk_a0 (by decide) [.int x1] [] (c_Ground_allOf G l σ a0 x1 hcr30) 28 1 tw_459 tw_465 tw_458 ts_12 tw_3 hd_Ground_allOf rfl ⟨(Nat.le_of_ble_eq_true rfl), (Nat.le_of_ble_eq_true rfl)⟩ ⟨(Nat.le_of_ble_eq_true rfl), (Nat.le_of_ble_eq_true rfl)⟩ (Nat.le_of_ble_eq_true rfl) rfl 9 rfl (by decide +kernel) [.long r30] rfl ?_
    refine v_iload_n C 2 2 rfl 10 rfl (by decide +kernel) ?_
    obtain ⟨r32, σ31, hcr32, hf⟩ := cl2_e hf
    refine v_cSN C [.int x2] [.long r30] (c_N_bit G l σ29 x2 hcr32) 32 1 tw_468 tw_466 tw_467 tw_1 hd_N_bit rfl ⟨(Nat.le_of_ble_eq_true rfl), (Nat.le_of_ble_eq_true rfl)⟩ ⟨(Nat.le_of_ble_eq_true rfl), (Nat.le_of_ble_eq_true rfl)⟩ (Nat.le_of_ble_eq_true rfl) rfl 13 rfl (by decide +kernel) [.long r32, .long r30] rfl ?_
    refine v_lor C 14 rfl (by decide +kernel) ?_
    refine v_goto C 31 (by decide +kernel) ?_
    refine v_sub [0, 1] rfl ?_
    exact t_Ground_mark_31 G l C hr  σ31 (r30 ||| r32) a0 x1 hk_a0 hf
theorem hd_Ground_mark : (⟨"NinthStep$Ground", "mark", "(IIZ)V"⟩ : MethodName).cls = "NinthStep$Ground" ∧ (⟨"NinthStep$Ground", "mark", "(IIZ)V"⟩ : MethodName).cls ≠ "java/lang/invoke/MethodHandle" ∧ (⟨"NinthStep$Ground", "mark", "(IIZ)V"⟩ : MethodName).cls ≠ "java/lang/invoke/VarHandle" ∧ (parseMethodDescriptor (⟨"NinthStep$Ground", "mark", "(IIZ)V"⟩ : MethodName).desc).map (fun d => d.parameters.length) = some 3 := by decide +kernel
def g_N_put_50  (σ : ns_St) (a0 : Nat) (x1 : Int32) (x2 : Int32) (x3 : Int32) : Option (Int32 × ns_St) := drf (σ.2.2 a0 0) fun b30 => grd (ns_kd b30 = 7) <| drf (σ.2.2 b30 0) fun b31 => grd (ns_kd b31 = 1) <| cl2 (g_Ground_allOf σ b31 x2) fun r33 σ32 => cl2 (g_N_isIn σ32 r33 x1) fun r35 σ34 => ite2 (r35 = x3) (some ((0 : Int32), σ34)) (drf (σ34.2.2 a0 0) fun b37 => grd (ns_kd b37 = 7) <| drf (σ34.2.2 b37 0) fun b38 => grd (ns_kd b38 = 1) <| cl2 (g_Ground_mark σ34 b38 x2 x1 x3) fun r40 σ39 => some ((1 : Int32), σ39))
def g_N_put (σ : ns_St) (a0 : Nat) (x1 : Int32) (x2 : Int32) (x3 : Int32) : Option (Int32 × ns_St) := grd (ns_kd a0 = 8) <| cl2 (g_N_isPlace σ a0 x1) fun r42 σ41 => ite2 (r42 = 0) (cl2 (g_N_refuse σ41 a0 (-2 : Int32)) fun r45 σ44 => some (r45, σ44)) (cl2 (g_N_isWithin σ41 x2 (0 : Int32) (3 : Int32)) fun r47 σ46 => ite2 (r47 = 0) (cl2 (g_N_refuse σ46 a0 (-2 : Int32)) fun r58 σ57 => some (r58, σ57)) (ite2 (x3 = 0) (g_N_put_50 σ46 a0 x1 x2 x3) (drf (σ46.2.2 a0 0) fun b50 => grd (ns_kd b50 = 7) <| drf (σ46.2.2 b50 0) fun b51 => grd (ns_kd b51 = 1) <| cl2 (g_Ground_forbids σ46 b51 x2 x1) fun r53 σ52 => ite2 (r53 = 0) (g_N_put_50 σ52 a0 x1 x2 x3) (cl2 (g_N_refuse σ52 a0 (-5 : Int32)) fun r56 σ55 => some (r56, σ55)))))
theorem t_N_put_50 (G : ns_G) (l : Launch) {p : Program} {e : Env} {s : State} {m : MethodId} {args : Array Value} {below : List Frame} {meth : Method} {c : Code} (C : ns_Cx G p s m args meth c prog_1_method_10_code "NinthStep" 4) (hr : meth.sig.returnType = (some .int)) {r : Int32} {σ' : ns_St}  (σ : ns_St) (a0 : Nat) (x1 : Int32) (x2 : Int32) (x3 : Int32) (hk_a0 : ns_kd a0 = 8) (hf : g_N_put_50 σ a0 x1 x2 x3 = some (r, σ')) : VV G p l e { frames := 2, cells := 0, slots := 0, locals := 46 } s m args below meth c 4 0 0 (MQ below (ns_Qc G (some (.int r)) ns_N σ') args s 0 0 (ns_A G)) ns_N σ 50 [(0, .ref (G.1 + a0)), (1, .int x1), (2, .int x2), (3, .int x3)] [] := by
  unfold g_N_put_50 at hf
  refine v_aload_n C 0 0 rfl 51 rfl (by decide +kernel) ?_
  obtain ⟨b30, hb30, hf⟩ := drf_e hf
  obtain ⟨hk_b30, hf⟩ := grd_e hf
  refine v_getR C 8 0 hb30 rfl nin_8 (ns_kd_lt hk_a0 (by decide)) hk_a0 (by decide) (by decide) rfl 12 tw_287 rfl 54 rfl (by decide +kernel) ?_
  obtain ⟨b31, hb31, hf⟩ := drf_e hf
  obtain ⟨hk_b31, hf⟩ := grd_e hf
  refine v_getRN C 7 0 hb31 rfl nin_7 (ns_kd_lt hk_b30 (by decide)) hk_b30 (by decide) (by decide) rfl 138 tw_128 rfl 57 rfl (by decide +kernel) ?_
  refine v_iload_n C 2 2 rfl 58 rfl (by decide +kernel) ?_
  obtain ⟨r33, σ32, hcr33, hf⟩ := cl2_e hf
  refine v_cVN C 1 rfl (ns_kd_lt hk_b31 (by decide)) hk_b31 (by decide) [.int x2] [] (c_Ground_allOf G l σ b31 x2 hcr33) 157 1 tw_459 tw_456 tw_458 ts_12 tw_3 hd_Ground_allOf rfl ⟨(Nat.le_of_ble_eq_true rfl), (Nat.le_of_ble_eq_true rfl)⟩ ⟨(Nat.le_of_ble_eq_true rfl), (Nat.le_of_ble_eq_true rfl)⟩ (Nat.le_of_ble_eq_true rfl) rfl 61 rfl (by decide +kernel) [.long r33] rfl ?_
  refine v_iload_n C 1 1 rfl 62 rfl (by decide +kernel) ?_
  obtain ⟨r35, σ34, hcr35, hf⟩ := cl2_e hf
  refine v_cS C [.long r33, .int x1] [] (c_N_isIn G l σ32 r33 x1 hcr35) 160 2 tw_455 tw_460 tw_454 tw_1 hd_N_isIn rfl ⟨(Nat.le_of_ble_eq_true rfl), (Nat.le_of_ble_eq_true rfl)⟩ ⟨(Nat.le_of_ble_eq_true rfl), (Nat.le_of_ble_eq_true rfl)⟩ (Nat.le_of_ble_eq_true rfl) rfl 65 rfl (by decide +kernel) [.int r35] rfl ?_
  refine v_iload_n C 3 3 rfl 66 rfl (by decide +kernel) ?_
  refine v_icmp_ne C 71 69 rfl (by decide +kernel) (fun h36 => ?_) (fun h36 => ?_)
  · have hf := ite2_f hf h36
    refine v_aload_n C 0 0 rfl 72 rfl (by decide +kernel) ?_
    obtain ⟨b37, hb37, hf⟩ := drf_e hf
    obtain ⟨hk_b37, hf⟩ := grd_e hf
    refine v_getR C 8 0 hb37 rfl nin_8 (ns_kd_lt hk_a0 (by decide)) hk_a0 (by decide) (by decide) rfl 12 tw_287 rfl 75 rfl (by decide +kernel) ?_
    obtain ⟨b38, hb38, hf⟩ := drf_e hf
    obtain ⟨hk_b38, hf⟩ := grd_e hf
    refine v_getRN C 7 0 hb38 rfl nin_7 (ns_kd_lt hk_b37 (by decide)) hk_b37 (by decide) (by decide) rfl 138 tw_128 rfl 78 rfl (by decide +kernel) ?_
    refine v_iload_n C 2 2 rfl 79 rfl (by decide +kernel) ?_
    refine v_iload_n C 1 1 rfl 80 rfl (by decide +kernel) ?_
    refine v_iload_n C 3 3 rfl 81 rfl (by decide +kernel) ?_
    obtain ⟨r40, σ39, hcr40, hf⟩ := cl2_e hf
    refine v_cVN C 1 rfl (ns_kd_lt hk_b38 (by decide)) hk_b38 (by decide) [.int x2, .int x1, .int x3] [] (c_Ground_mark G l σ34 b38 x2 x1 x3 hcr40) 164 3 tw_464 tw_461 tw_463 ts_13 tw_3 hd_Ground_mark rfl ⟨(Nat.le_of_ble_eq_true rfl), (Nat.le_of_ble_eq_true rfl)⟩ ⟨(Nat.le_of_ble_eq_true rfl), (Nat.le_of_ble_eq_true rfl)⟩ (Nat.le_of_ble_eq_true rfl) rfl 84 rfl (by decide +kernel) [] rfl ?_
    refine v_iconst C (1) (1) (by decide) 85 rfl (by decide +kernel) ?_
    obtain ⟨rfl, rfl⟩ := ret_e hf
    exact v_iret C hr (by decide +kernel)
  · have hf := ite2_t hf h36
    refine v_iconst C (0) (0) (by decide) 70 rfl (by decide +kernel) ?_
    obtain ⟨rfl, rfl⟩ := ret_e hf
    exact v_iret C hr (by decide +kernel)
theorem c_N_put (G : ns_G) (l : Launch) (σ : ns_St) (a0 : Nat) (x1 : Int32) (x2 : Int32) (x3 : Int32) {r : Int32} {σ' : ns_St} (hf : g_N_put σ a0 x1 x2 x3 = some (r, σ')) : ns_ok G l ⟨"NinthStep", "put", "(IIZ)I"⟩ prog_1_method_10_code 4 (some .int) 2 46 0 0 [.ref (G.1 + a0), .int x1, .int x2, .int x3] ns_N σ (some (.int r)) ns_N σ' := by
  refine v_open (by decide) (Nat.le_of_ble_eq_true rfl) rfl ?_
  intro p e s m below meth c C hr _
  have C : ns_Cx G p s m _ meth c prog_1_method_10_code "NinthStep" 4 := C
  unfold g_N_put at hf
  obtain ⟨hk_a0, hf⟩ := grd_e hf
  refine v_aload_n C 0 0 rfl 1 rfl (by decide +kernel) ?_
  refine v_iload_n C 1 1 rfl 2 rfl (by decide +kernel) ?_
  obtain ⟨r42, σ41, hcr42, hf⟩ := cl2_e hf
  refine v_cV C 8 rfl (ns_kd_lt hk_a0 (by decide)) hk_a0 (by decide) [.int x1] [] (c_N_isPlace G l σ a0 x1 hcr42) 150 1 tw_448 tw_445 tw_447 ts_10 tw_1 hd_N_isPlace rfl ⟨(Nat.le_of_ble_eq_true rfl), (Nat.le_of_ble_eq_true rfl)⟩ ⟨(Nat.le_of_ble_eq_true rfl), (Nat.le_of_ble_eq_true rfl)⟩ (Nat.le_of_ble_eq_true rfl) rfl 5 rfl (by decide +kernel) [.int r42] rfl ?_
  refine v_if_eq C 17 8 rfl (by decide +kernel) (fun h43 => ?_) (fun h43 => ?_)
  · have hf := ite2_t hf h43
    refine v_aload_n C 0 0 rfl 18 rfl (by decide +kernel) ?_
    refine v_bipush C (-2) (-2) (by decide) 20 rfl (by decide +kernel) ?_
    obtain ⟨r45, σ44, hcr45, hf⟩ := cl2_e hf
    refine v_cV C 8 rfl (ns_kd_lt hk_a0 (by decide)) hk_a0 (by decide) [.int (-2 : Int32)] [] (c_N_refuse G l σ41 a0 (-2 : Int32) hcr45) 79 1 tw_338 tw_335 tw_337 ts_1 tw_1 hd_N_refuse rfl ⟨(Nat.le_of_ble_eq_true rfl), (Nat.le_of_ble_eq_true rfl)⟩ ⟨(Nat.le_of_ble_eq_true rfl), (Nat.le_of_ble_eq_true rfl)⟩ (Nat.le_of_ble_eq_true rfl) rfl 23 rfl (by decide +kernel) [.int r45] rfl ?_
    obtain ⟨rfl, rfl⟩ := ret_e hf
    exact v_iret C hr (by decide +kernel)
  · have hf := ite2_f hf h43
    refine v_iload_n C 2 2 rfl 9 rfl (by decide +kernel) ?_
    refine v_iconst C (0) (0) (by decide) 10 rfl (by decide +kernel) ?_
    refine v_iconst C (3) (3) (by decide) 11 rfl (by decide +kernel) ?_
    obtain ⟨r47, σ46, hcr47, hf⟩ := cl2_e hf
    refine v_cS C [.int x2, .int (0 : Int32), .int (3 : Int32)] [] (c_N_isWithin G l σ41 x2 (0 : Int32) (3 : Int32) hcr47) 75 3 tw_334 tw_332 tw_333 tw_1 hd_N_isWithin rfl ⟨(Nat.le_of_ble_eq_true rfl), (Nat.le_of_ble_eq_true rfl)⟩ ⟨(Nat.le_of_ble_eq_true rfl), (Nat.le_of_ble_eq_true rfl)⟩ (Nat.le_of_ble_eq_true rfl) rfl 14 rfl (by decide +kernel) [.int r47] rfl ?_
    refine v_if_ne C 24 17 rfl (by decide +kernel) (fun h48 => ?_) (fun h48 => ?_)
    · have hf := ite2_f hf h48
      refine v_iload_n C 3 3 rfl 25 rfl (by decide +kernel) ?_
      refine v_if_eq C 50 28 rfl (by decide +kernel) (fun h49 => ?_) (fun h49 => ?_)
      · have hf := ite2_t hf h49
        exact t_N_put_50 G l C hr  σ46 a0 x1 x2 x3 hk_a0 hf
      · have hf := ite2_f hf h49
        refine v_aload_n C 0 0 rfl 29 rfl (by decide +kernel) ?_
        obtain ⟨b50, hb50, hf⟩ := drf_e hf
        obtain ⟨hk_b50, hf⟩ := grd_e hf
        refine v_getR C 8 0 hb50 rfl nin_8 (ns_kd_lt hk_a0 (by decide)) hk_a0 (by decide) (by decide) rfl 12 tw_287 rfl 32 rfl (by decide +kernel) ?_
        obtain ⟨b51, hb51, hf⟩ := drf_e hf
        obtain ⟨hk_b51, hf⟩ := grd_e hf
        refine v_getRN C 7 0 hb51 rfl nin_7 (ns_kd_lt hk_b50 (by decide)) hk_b50 (by decide) (by decide) rfl 138 tw_128 rfl 35 rfl (by decide +kernel) ?_
        refine v_iload_n C 2 2 rfl 36 rfl (by decide +kernel) ?_
        refine v_iload_n C 1 1 rfl 37 rfl (by decide +kernel) ?_
        obtain ⟨r53, σ52, hcr53, hf⟩ := cl2_e hf
        refine v_cVN C 1 rfl (ns_kd_lt hk_b51 (by decide)) hk_b51 (by decide) [.int x2, .int x1] [] (c_Ground_forbids G l σ46 b51 x2 x1 hcr53) 154 2 tw_452 tw_449 tw_451 ts_11 tw_3 hd_Ground_forbids rfl ⟨(Nat.le_of_ble_eq_true rfl), (Nat.le_of_ble_eq_true rfl)⟩ ⟨(Nat.le_of_ble_eq_true rfl), (Nat.le_of_ble_eq_true rfl)⟩ (Nat.le_of_ble_eq_true rfl) rfl 40 rfl (by decide +kernel) [.int r53] rfl ?_
        refine v_if_eq C 50 43 rfl (by decide +kernel) (fun h54 => ?_) (fun h54 => ?_)
        · have hf := ite2_t hf h54
          exact t_N_put_50 G l C hr  σ52 a0 x1 x2 x3 hk_a0 hf
        · have hf := ite2_f hf h54
          refine v_aload_n C 0 0 rfl 44 rfl (by decide +kernel) ?_
          refine v_bipush C (-5) (-5) (by decide) 46 rfl (by decide +kernel) ?_
          obtain ⟨r56, σ55, hcr56, hf⟩ := cl2_e hf
          refine v_cV C 8 rfl (ns_kd_lt hk_a0 (by decide)) hk_a0 (by decide) [.int (-5 : Int32)] [] (c_N_refuse G l σ52 a0 (-5 : Int32) hcr56) 79 1 tw_338 tw_335 tw_337 ts_1 tw_1 hd_N_refuse rfl ⟨(Nat.le_of_ble_eq_true rfl), (Nat.le_of_ble_eq_true rfl)⟩ ⟨(Nat.le_of_ble_eq_true rfl), (Nat.le_of_ble_eq_true rfl)⟩ (Nat.le_of_ble_eq_true rfl) rfl 49 rfl (by decide +kernel) [.int r56] rfl ?_
          obtain ⟨rfl, rfl⟩ := ret_e hf
          exact v_iret C hr (by decide +kernel)
    · have hf := ite2_t hf h48
      refine v_aload_n C 0 0 rfl 18 rfl (by decide +kernel) ?_
      refine v_bipush C (-2) (-2) (by decide) 20 rfl (by decide +kernel) ?_
      obtain ⟨r58, σ57, hcr58, hf⟩ := cl2_e hf
      refine v_cV C 8 rfl (ns_kd_lt hk_a0 (by decide)) hk_a0 (by decide) [.int (-2 : Int32)] [] (c_N_refuse G l σ46 a0 (-2 : Int32) hcr58) 79 1 tw_338 tw_335 tw_337 ts_1 tw_1 hd_N_refuse rfl ⟨(Nat.le_of_ble_eq_true rfl), (Nat.le_of_ble_eq_true rfl)⟩ ⟨(Nat.le_of_ble_eq_true rfl), (Nat.le_of_ble_eq_true rfl)⟩ (Nat.le_of_ble_eq_true rfl) rfl 23 rfl (by decide +kernel) [.int r58] rfl ?_
      obtain ⟨rfl, rfl⟩ := ret_e hf
      exact v_iret C hr (by decide +kernel)
theorem hd_N_put : (⟨"NinthStep", "put", "(IIZ)I"⟩ : MethodName).cls = "NinthStep" ∧ (⟨"NinthStep", "put", "(IIZ)I"⟩ : MethodName).cls ≠ "java/lang/invoke/MethodHandle" ∧ (⟨"NinthStep", "put", "(IIZ)I"⟩ : MethodName).cls ≠ "java/lang/invoke/VarHandle" ∧ (parseMethodDescriptor (⟨"NinthStep", "put", "(IIZ)I"⟩ : MethodName).desc).map (fun d => d.parameters.length) = some 3 := by decide +kernel
def g_World_newMule (σ : ns_St) (a0 : Nat) : Option (Option Nat × ns_St) := grd (ns_kd a0 = 7) <| ite2 ((σ.1 a0 2) < (6 : Int32)) (bnd (ns_pI σ a0 2 ((σ.1 a0 2) + (1 : Int32))) fun σ7 => drf (σ7.2.2 a0 1) fun b8 => grd (ns_kd b8 = 12) <| grd (ns_in ((σ7.1 a0 2) - (1 : Int32)) (ns_ln b8)) <| drf (σ7.2.2 b8 (ns_ix ((σ7.1 a0 2) - (1 : Int32)))) fun b10 => grd (ns_kd b10 = 2) <| some ((some b10), σ7)) (some (none, σ))
theorem c_World_newMule (G : ns_G) (l : Launch) (σ : ns_St) (a0 : Nat) {r : Option Nat} {σ' : ns_St} (hf : g_World_newMule σ a0 = some (r, σ')) : ns_ok G l ⟨"NinthStep$World", "newMule", "()LNinthStep$Mule;"⟩ prog_9_method_4_code 1 (some (.object "NinthStep$Mule")) 0 0 0 0 [.ref (G.1 + a0)] ns_N σ (some (va_rf (ns_rf G.1 r))) ns_N σ' := by
  refine v_open (by decide) (Nat.le_of_ble_eq_true rfl) rfl ?_
  intro p e s m below meth c C hr _
  have C : ns_Cx G p s m _ meth c prog_9_method_4_code "NinthStep$World" 1 := C
  unfold g_World_newMule at hf
  obtain ⟨hk_a0, hf⟩ := grd_e hf
  refine v_aload_n C 0 0 rfl 1 rfl (by decide +kernel) ?_
  refine v_getI C 7 2 rfl nin_7 (ns_kd_lt hk_a0 (by decide)) hk_a0 (by decide) (by decide) rfl 36 tw_133 rfl 4 rfl (by decide +kernel) ?_
  refine v_bipush C (6) (6) (by decide) 6 rfl (by decide +kernel) ?_
  refine v_icmp_lt C 11 9 rfl (by decide +kernel) (fun h6 => ?_) (fun h6 => ?_)
  · have hf := ite2_t hf h6
    refine v_aload_n C 0 0 rfl 12 rfl (by decide +kernel) ?_
    refine v_dup C rfl 13 rfl (by decide +kernel) ?_
    refine v_getI C 7 2 rfl nin_7 (ns_kd_lt hk_a0 (by decide)) hk_a0 (by decide) (by decide) rfl 36 tw_133 rfl 16 rfl (by decide +kernel) ?_
    refine v_iconst C (1) (1) (by decide) 17 rfl (by decide +kernel) ?_
    refine v_iadd C 18 rfl (by decide +kernel) ?_
    obtain ⟨σ7, hσ7, hf⟩ := bnd_e hf
    refine v_putI C 7 2 hσ7 rfl nin_7 ny_7 nty_7 nnm_7 (ns_kd_lt hk_a0 (by decide)) hk_a0 (by decide) (by decide) rfl rfl rfl rfl 36 tw_133 rfl 21 rfl (by decide +kernel) ?_
    refine v_aload_n C 0 0 rfl 22 rfl (by decide +kernel) ?_
    obtain ⟨b8, hb8, hf⟩ := drf_e hf
    obtain ⟨hk_b8, hf⟩ := grd_e hf
    refine v_getR C 7 1 hb8 rfl nin_7 (ns_kd_lt hk_a0 (by decide)) hk_a0 (by decide) (by decide) rfl 20 tw_129 rfl 25 rfl (by decide +kernel) ?_
    refine v_aload_n C 0 0 rfl 26 rfl (by decide +kernel) ?_
    refine v_getI C 7 2 rfl nin_7 (ns_kd_lt hk_a0 (by decide)) hk_a0 (by decide) (by decide) rfl 36 tw_133 rfl 29 rfl (by decide +kernel) ?_
    refine v_iconst C (1) (1) (by decide) 30 rfl (by decide +kernel) ?_
    refine v_isub C 31 rfl (by decide +kernel) ?_
    obtain ⟨hi9, hf⟩ := grd_e hf
    obtain ⟨b10, hb10, hf⟩ := drf_e hf
    obtain ⟨hk_b10, hf⟩ := grd_e hf
    refine v_aald C 12 (by decide) (ns_kd_lt hk_b8 (by decide)) hk_b8 hi9 hb10 32 rfl (by decide +kernel) ?_
    obtain ⟨rfl, rfl⟩ := ret_e hf
    exact v_aret C hr (x := (some b10)) (by decide +kernel)
  · have hf := ite2_f hf h6
    refine v_null C 10 rfl (by decide +kernel) ?_
    obtain ⟨rfl, rfl⟩ := ret_e hf
    exact v_aret C hr (x := none) (by decide +kernel)
theorem hd_World_newMule : (⟨"NinthStep$World", "newMule", "()LNinthStep$Mule;"⟩ : MethodName).cls = "NinthStep$World" ∧ (⟨"NinthStep$World", "newMule", "()LNinthStep$Mule;"⟩ : MethodName).cls ≠ "java/lang/invoke/MethodHandle" ∧ (⟨"NinthStep$World", "newMule", "()LNinthStep$Mule;"⟩ : MethodName).cls ≠ "java/lang/invoke/VarHandle" ∧ (parseMethodDescriptor (⟨"NinthStep$World", "newMule", "()LNinthStep$Mule;"⟩ : MethodName).desc).map (fun d => d.parameters.length) = some 0 := by decide +kernel
def g_Mule_become_52  (σ : ns_St) (s0 : Nat) (s1 : Int32) (a0 : Nat) : Option (Unit × ns_St) := bnd (ns_pI σ s0 6 s1) fun σ16 => cl2 (g_N_isUnder σ16 (σ16.1 a0 0) (2 : Int32)) fun r18 σ17 => ite2 (r18 = 0) (bnd (ns_pI σ17 a0 7 (1 : Int32)) fun σ20 => some ((), σ20)) (bnd (ns_pI σ17 a0 7 (0 : Int32)) fun σ21 => some ((), σ21))
def g_Mule_become (σ : ns_St) (a0 : Nat) (x1 : Int32) (x2 : Int32) (x3 : Int32) : Option (Unit × ns_St) := grd (ns_kd a0 = 2) <| bnd (ns_pI σ a0 0 x1) fun σ22 => bnd (ns_pI σ22 a0 1 x2) fun σ23 => bnd (ns_pI σ23 a0 5 x3) fun σ24 => bnd (ns_pI σ24 a0 2 (0 : Int32)) fun σ25 => bnd (ns_pI σ25 a0 3 (0 : Int32)) fun σ26 => bnd (ns_pI σ26 a0 4 (0 : Int32)) fun σ27 => cl2 (g_N_isUnder σ27 (σ27.1 a0 0) (1 : Int32)) fun r29 σ28 => ite2 (r29 = 0) (g_Mule_become_52 σ28 a0 (1 : Int32) a0) (g_Mule_become_52 σ28 a0 ((1 : Int32) + (σ28.1 a0 5)) a0)
theorem t_Mule_become_52 (G : ns_G) (l : Launch) {p : Program} {e : Env} {s : State} {m : MethodId} {args : Array Value} {below : List Frame} {meth : Method} {c : Code} (C : ns_Cx G p s m args meth c prog_4_method_2_code "NinthStep$Mule" 4) (hr : meth.sig.returnType = none) {r : Unit} {σ' : ns_St}  (σ : ns_St) (s0 : Nat) (s1 : Int32) (a0 : Nat) (hk_s0 : ns_kd s0 = 2) (hk_a0 : ns_kd a0 = 2) (hf : g_Mule_become_52 σ s0 s1 a0 = some (r, σ')) : VV G p l e { frames := 1, cells := 0, slots := 0, locals := 23 } s m args below meth c 4 0 0 (MQ below (ns_Qc G none ns_N σ') args s 0 0 (ns_A G)) ns_N σ 52 [(0, .ref (G.1 + a0))] [.int s1, .ref (G.1 + s0)] := by
  unfold g_Mule_become_52 at hf
  obtain ⟨σ16, hσ16, hf⟩ := bnd_e hf
  refine v_putI C 2 6 hσ16 rfl nin_2 ny_2 nty_2 nnm_2 (ns_kd_lt hk_s0 (by decide)) hk_s0 (by decide) (by decide) rfl rfl rfl rfl 34 tw_103 rfl 55 rfl (by decide +kernel) ?_
  refine v_aload_n C 0 0 rfl 56 rfl (by decide +kernel) ?_
  refine v_aload_n C 0 0 rfl 57 rfl (by decide +kernel) ?_
  refine v_getI C 2 0 rfl nin_2 (ns_kd_lt hk_a0 (by decide)) hk_a0 (by decide) (by decide) rfl 9 tw_82 rfl 60 rfl (by decide +kernel) ?_
  refine v_iconst C (2) (2) (by decide) 61 rfl (by decide +kernel) ?_
  obtain ⟨r18, σ17, hcr18, hf⟩ := cl2_e hf
  refine v_cSN C [.int (σ16.1 a0 0), .int (2 : Int32)] [.ref (G.1 + a0)] (c_N_isUnder G l σ16 (σ16.1 a0 0) (2 : Int32) hcr18) 30 2 tw_397 tw_482 tw_396 tw_1 hd_N_isUnder rfl ⟨(Nat.le_of_ble_eq_true rfl), (Nat.le_of_ble_eq_true rfl)⟩ ⟨(Nat.le_of_ble_eq_true rfl), (Nat.le_of_ble_eq_true rfl)⟩ (Nat.le_of_ble_eq_true rfl) rfl 64 rfl (by decide +kernel) [.int r18, .ref (G.1 + a0)] rfl ?_
  refine v_if_eq C 71 67 rfl (by decide +kernel) (fun h19 => ?_) (fun h19 => ?_)
  · have hf := ite2_t hf h19
    refine v_iconst C (1) (1) (by decide) 72 rfl (by decide +kernel) ?_
    obtain ⟨σ20, hσ20, hf⟩ := bnd_e hf
    refine v_putI C 2 7 hσ20 rfl nin_2 ny_2 nty_2 nnm_2 (ns_kd_lt hk_a0 (by decide)) hk_a0 (by decide) (by decide) rfl rfl rfl rfl 37 tw_106 rfl 75 rfl (by decide +kernel) ?_
    obtain ⟨rfl, rfl⟩ := ret_e hf
    exact v_vret C hr (by decide +kernel)
  · have hf := ite2_f hf h19
    refine v_iconst C (0) (0) (by decide) 68 rfl (by decide +kernel) ?_
    refine v_goto C 72 (by decide +kernel) ?_
    obtain ⟨σ21, hσ21, hf⟩ := bnd_e hf
    refine v_putI C 2 7 hσ21 rfl nin_2 ny_2 nty_2 nnm_2 (ns_kd_lt hk_a0 (by decide)) hk_a0 (by decide) (by decide) rfl rfl rfl rfl 37 tw_106 rfl 75 rfl (by decide +kernel) ?_
    obtain ⟨rfl, rfl⟩ := ret_e hf
    exact v_vret C hr (by decide +kernel)
theorem c_Mule_become (G : ns_G) (l : Launch) (σ : ns_St) (a0 : Nat) (x1 : Int32) (x2 : Int32) (x3 : Int32) {r : Unit} {σ' : ns_St} (hf : g_Mule_become σ a0 x1 x2 x3 = some (r, σ')) : ns_ok G l ⟨"NinthStep$Mule", "become", "(III)V"⟩ prog_4_method_2_code 4 none 1 23 0 0 [.ref (G.1 + a0), .int x1, .int x2, .int x3] ns_N σ none ns_N σ' := by
  refine v_open (by decide) (Nat.le_of_ble_eq_true rfl) rfl ?_
  intro p e s m below meth c C hr _
  have C : ns_Cx G p s m _ meth c prog_4_method_2_code "NinthStep$Mule" 4 := C
  unfold g_Mule_become at hf
  obtain ⟨hk_a0, hf⟩ := grd_e hf
  refine v_aload_n C 0 0 rfl 1 rfl (by decide +kernel) ?_
  refine v_iload_n C 1 1 rfl 2 rfl (by decide +kernel) ?_
  obtain ⟨σ22, hσ22, hf⟩ := bnd_e hf
  refine v_putI C 2 0 hσ22 rfl nin_2 ny_2 nty_2 nnm_2 (ns_kd_lt hk_a0 (by decide)) hk_a0 (by decide) (by decide) rfl rfl rfl rfl 9 tw_82 rfl 5 rfl (by decide +kernel) ?_
  refine v_aload_n C 0 0 rfl 6 rfl (by decide +kernel) ?_
  refine v_iload_n C 2 2 rfl 7 rfl (by decide +kernel) ?_
  obtain ⟨σ23, hσ23, hf⟩ := bnd_e hf
  refine v_putI C 2 1 hσ23 rfl nin_2 ny_2 nty_2 nnm_2 (ns_kd_lt hk_a0 (by decide)) hk_a0 (by decide) (by decide) rfl rfl rfl rfl 15 tw_84 rfl 10 rfl (by decide +kernel) ?_
  refine v_aload_n C 0 0 rfl 11 rfl (by decide +kernel) ?_
  refine v_iload_n C 3 3 rfl 12 rfl (by decide +kernel) ?_
  obtain ⟨σ24, hσ24, hf⟩ := bnd_e hf
  refine v_putI C 2 5 hσ24 rfl nin_2 ny_2 nty_2 nnm_2 (ns_kd_lt hk_a0 (by decide)) hk_a0 (by decide) (by decide) rfl rfl rfl rfl 18 tw_101 rfl 15 rfl (by decide +kernel) ?_
  refine v_aload_n C 0 0 rfl 16 rfl (by decide +kernel) ?_
  refine v_iconst C (0) (0) (by decide) 17 rfl (by decide +kernel) ?_
  obtain ⟨σ25, hσ25, hf⟩ := bnd_e hf
  refine v_putI C 2 2 hσ25 rfl nin_2 ny_2 nty_2 nnm_2 (ns_kd_lt hk_a0 (by decide)) hk_a0 (by decide) (by decide) rfl rfl rfl rfl 21 tw_88 rfl 20 rfl (by decide +kernel) ?_
  refine v_aload_n C 0 0 rfl 21 rfl (by decide +kernel) ?_
  refine v_iconst C (0) (0) (by decide) 22 rfl (by decide +kernel) ?_
  obtain ⟨σ26, hσ26, hf⟩ := bnd_e hf
  refine v_putI C 2 3 hσ26 rfl nin_2 ny_2 nty_2 nnm_2 (ns_kd_lt hk_a0 (by decide)) hk_a0 (by decide) (by decide) rfl rfl rfl rfl 24 tw_94 rfl 25 rfl (by decide +kernel) ?_
  refine v_aload_n C 0 0 rfl 26 rfl (by decide +kernel) ?_
  refine v_iconst C (0) (0) (by decide) 27 rfl (by decide +kernel) ?_
  obtain ⟨σ27, hσ27, hf⟩ := bnd_e hf
  refine v_putI C 2 4 hσ27 rfl nin_2 ny_2 nty_2 nnm_2 (ns_kd_lt hk_a0 (by decide)) hk_a0 (by decide) (by decide) rfl rfl rfl rfl 27 tw_98 rfl 30 rfl (by decide +kernel) ?_
  refine v_aload_n C 0 0 rfl 31 rfl (by decide +kernel) ?_
  refine v_aload_n C 0 0 rfl 32 rfl (by decide +kernel) ?_
  refine v_getI C 2 0 rfl nin_2 (ns_kd_lt hk_a0 (by decide)) hk_a0 (by decide) (by decide) rfl 9 tw_82 rfl 35 rfl (by decide +kernel) ?_
  refine v_iconst C (1) (1) (by decide) 36 rfl (by decide +kernel) ?_
  obtain ⟨r29, σ28, hcr29, hf⟩ := cl2_e hf
  refine v_cSN C [.int (σ27.1 a0 0), .int (1 : Int32)] [.ref (G.1 + a0)] (c_N_isUnder G l σ27 (σ27.1 a0 0) (1 : Int32) hcr29) 30 2 tw_397 tw_482 tw_396 tw_1 hd_N_isUnder rfl ⟨(Nat.le_of_ble_eq_true rfl), (Nat.le_of_ble_eq_true rfl)⟩ ⟨(Nat.le_of_ble_eq_true rfl), (Nat.le_of_ble_eq_true rfl)⟩ (Nat.le_of_ble_eq_true rfl) rfl 39 rfl (by decide +kernel) [.int r29, .ref (G.1 + a0)] rfl ?_
  refine v_if_eq C 51 42 rfl (by decide +kernel) (fun h30 => ?_) (fun h30 => ?_)
  · have hf := ite2_t hf h30
    refine v_iconst C (1) (1) (by decide) 52 rfl (by decide +kernel) ?_
    refine v_sub [0] rfl ?_
    exact t_Mule_become_52 G l C hr  σ28 a0 (1 : Int32) a0 hk_a0 hk_a0 hf
  · have hf := ite2_f hf h30
    refine v_iconst C (1) (1) (by decide) 43 rfl (by decide +kernel) ?_
    refine v_aload_n C 0 0 rfl 44 rfl (by decide +kernel) ?_
    refine v_getI C 2 5 rfl nin_2 (ns_kd_lt hk_a0 (by decide)) hk_a0 (by decide) (by decide) rfl 18 tw_101 rfl 47 rfl (by decide +kernel) ?_
    refine v_iadd C 48 rfl (by decide +kernel) ?_
    refine v_goto C 52 (by decide +kernel) ?_
    refine v_sub [0] rfl ?_
    exact t_Mule_become_52 G l C hr  σ28 a0 ((1 : Int32) + (σ28.1 a0 5)) a0 hk_a0 hk_a0 hf
theorem hd_Mule_become : (⟨"NinthStep$Mule", "become", "(III)V"⟩ : MethodName).cls = "NinthStep$Mule" ∧ (⟨"NinthStep$Mule", "become", "(III)V"⟩ : MethodName).cls ≠ "java/lang/invoke/MethodHandle" ∧ (⟨"NinthStep$Mule", "become", "(III)V"⟩ : MethodName).cls ≠ "java/lang/invoke/VarHandle" ∧ (parseMethodDescriptor (⟨"NinthStep$Mule", "become", "(III)V"⟩ : MethodName).desc).map (fun d => d.parameters.length) = some 3 := by decide +kernel
def g_N_mule (σ : ns_St) (a0 : Nat) (x1 : Int32) (x2 : Int32) (x3 : Int32) : Option (Int32 × ns_St) := grd (ns_kd a0 = 8) <| cl2 (g_N_isWithin σ x1 (0 : Int32) (5 : Int32)) fun r26 σ25 => ite2 (r26 = 0) (cl2 (g_N_refuse σ25 a0 (-2 : Int32)) fun r29 σ28 => some (r29, σ28)) (cl2 (g_N_isWithin σ25 x2 (2 : Int32) (13 : Int32)) fun r31 σ30 => ite2 (r31 = 0) (cl2 (g_N_refuse σ30 a0 (-2 : Int32)) fun r34 σ33 => some (r34, σ33)) (cl2 (g_N_isWithin σ30 x3 (0 : Int32) (9 : Int32)) fun r36 σ35 => ite2 (r36 = 0) (cl2 (g_N_refuse σ35 a0 (-2 : Int32)) fun r48 σ47 => some (r48, σ47)) (drf (σ35.2.2 a0 0) fun b38 => grd (ns_kd b38 = 7) <| cl2 (g_World_newMule σ35 b38) fun r40 σ39 => onul r40 (cl2 (g_N_refuse σ39 a0 (-6 : Int32)) fun r43 σ42 => some (r43, σ42)) (fun b41 => grd (ns_kd b41 = 2) <| cl2 (g_Mule_become σ39 b41 x1 x2 x3) fun r45 σ44 => drf (σ44.2.2 a0 0) fun b46 => grd (ns_kd b46 = 7) <| some (((σ44.1 b46 2) - (1 : Int32)), σ44)))))
theorem c_N_mule (G : ns_G) (l : Launch) (σ : ns_St) (a0 : Nat) (x1 : Int32) (x2 : Int32) (x3 : Int32) {r : Int32} {σ' : ns_St} (hf : g_N_mule σ a0 x1 x2 x3 = some (r, σ')) : ns_ok G l ⟨"NinthStep", "mule", "(III)I"⟩ prog_1_method_11_code 5 (some .int) 2 46 0 0 [.ref (G.1 + a0), .int x1, .int x2, .int x3] ns_N σ (some (.int r)) ns_N σ' := by
  refine v_open (by decide) (Nat.le_of_ble_eq_true rfl) rfl ?_
  intro p e s m below meth c C hr _
  have C : ns_Cx G p s m _ meth c prog_1_method_11_code "NinthStep" 5 := C
  unfold g_N_mule at hf
  obtain ⟨hk_a0, hf⟩ := grd_e hf
  refine v_iload_n C 1 1 rfl 1 rfl (by decide +kernel) ?_
  refine v_iconst C (0) (0) (by decide) 2 rfl (by decide +kernel) ?_
  refine v_iconst C (5) (5) (by decide) 3 rfl (by decide +kernel) ?_
  obtain ⟨r26, σ25, hcr26, hf⟩ := cl2_e hf
  refine v_cS C [.int x1, .int (0 : Int32), .int (5 : Int32)] [] (c_N_isWithin G l σ x1 (0 : Int32) (5 : Int32) hcr26) 75 3 tw_334 tw_332 tw_333 tw_1 hd_N_isWithin rfl ⟨(Nat.le_of_ble_eq_true rfl), (Nat.le_of_ble_eq_true rfl)⟩ ⟨(Nat.le_of_ble_eq_true rfl), (Nat.le_of_ble_eq_true rfl)⟩ (Nat.le_of_ble_eq_true rfl) rfl 6 rfl (by decide +kernel) [.int r26] rfl ?_
  refine v_if_eq C 29 9 rfl (by decide +kernel) (fun h27 => ?_) (fun h27 => ?_)
  · have hf := ite2_t hf h27
    refine v_aload_n C 0 0 rfl 30 rfl (by decide +kernel) ?_
    refine v_bipush C (-2) (-2) (by decide) 32 rfl (by decide +kernel) ?_
    obtain ⟨r29, σ28, hcr29, hf⟩ := cl2_e hf
    refine v_cV C 8 rfl (ns_kd_lt hk_a0 (by decide)) hk_a0 (by decide) [.int (-2 : Int32)] [] (c_N_refuse G l σ25 a0 (-2 : Int32) hcr29) 79 1 tw_338 tw_335 tw_337 ts_1 tw_1 hd_N_refuse rfl ⟨(Nat.le_of_ble_eq_true rfl), (Nat.le_of_ble_eq_true rfl)⟩ ⟨(Nat.le_of_ble_eq_true rfl), (Nat.le_of_ble_eq_true rfl)⟩ (Nat.le_of_ble_eq_true rfl) rfl 35 rfl (by decide +kernel) [.int r29] rfl ?_
    obtain ⟨rfl, rfl⟩ := ret_e hf
    exact v_iret C hr (by decide +kernel)
  · have hf := ite2_f hf h27
    refine v_iload_n C 2 2 rfl 10 rfl (by decide +kernel) ?_
    refine v_iconst C (2) (2) (by decide) 11 rfl (by decide +kernel) ?_
    refine v_bipush C (13) (13) (by decide) 13 rfl (by decide +kernel) ?_
    obtain ⟨r31, σ30, hcr31, hf⟩ := cl2_e hf
    refine v_cS C [.int x2, .int (2 : Int32), .int (13 : Int32)] [] (c_N_isWithin G l σ25 x2 (2 : Int32) (13 : Int32) hcr31) 75 3 tw_334 tw_332 tw_333 tw_1 hd_N_isWithin rfl ⟨(Nat.le_of_ble_eq_true rfl), (Nat.le_of_ble_eq_true rfl)⟩ ⟨(Nat.le_of_ble_eq_true rfl), (Nat.le_of_ble_eq_true rfl)⟩ (Nat.le_of_ble_eq_true rfl) rfl 16 rfl (by decide +kernel) [.int r31] rfl ?_
    refine v_if_eq C 29 19 rfl (by decide +kernel) (fun h32 => ?_) (fun h32 => ?_)
    · have hf := ite2_t hf h32
      refine v_aload_n C 0 0 rfl 30 rfl (by decide +kernel) ?_
      refine v_bipush C (-2) (-2) (by decide) 32 rfl (by decide +kernel) ?_
      obtain ⟨r34, σ33, hcr34, hf⟩ := cl2_e hf
      refine v_cV C 8 rfl (ns_kd_lt hk_a0 (by decide)) hk_a0 (by decide) [.int (-2 : Int32)] [] (c_N_refuse G l σ30 a0 (-2 : Int32) hcr34) 79 1 tw_338 tw_335 tw_337 ts_1 tw_1 hd_N_refuse rfl ⟨(Nat.le_of_ble_eq_true rfl), (Nat.le_of_ble_eq_true rfl)⟩ ⟨(Nat.le_of_ble_eq_true rfl), (Nat.le_of_ble_eq_true rfl)⟩ (Nat.le_of_ble_eq_true rfl) rfl 35 rfl (by decide +kernel) [.int r34] rfl ?_
      obtain ⟨rfl, rfl⟩ := ret_e hf
      exact v_iret C hr (by decide +kernel)
    · have hf := ite2_f hf h32
      refine v_iload_n C 3 3 rfl 20 rfl (by decide +kernel) ?_
      refine v_iconst C (0) (0) (by decide) 21 rfl (by decide +kernel) ?_
      refine v_bipush C (9) (9) (by decide) 23 rfl (by decide +kernel) ?_
      obtain ⟨r36, σ35, hcr36, hf⟩ := cl2_e hf
      refine v_cS C [.int x3, .int (0 : Int32), .int (9 : Int32)] [] (c_N_isWithin G l σ30 x3 (0 : Int32) (9 : Int32) hcr36) 75 3 tw_334 tw_332 tw_333 tw_1 hd_N_isWithin rfl ⟨(Nat.le_of_ble_eq_true rfl), (Nat.le_of_ble_eq_true rfl)⟩ ⟨(Nat.le_of_ble_eq_true rfl), (Nat.le_of_ble_eq_true rfl)⟩ (Nat.le_of_ble_eq_true rfl) rfl 26 rfl (by decide +kernel) [.int r36] rfl ?_
      refine v_if_ne C 36 29 rfl (by decide +kernel) (fun h37 => ?_) (fun h37 => ?_)
      · have hf := ite2_f hf h37
        refine v_aload_n C 0 0 rfl 37 rfl (by decide +kernel) ?_
        obtain ⟨b38, hb38, hf⟩ := drf_e hf
        obtain ⟨hk_b38, hf⟩ := grd_e hf
        refine v_getR C 8 0 hb38 rfl nin_8 (ns_kd_lt hk_a0 (by decide)) hk_a0 (by decide) (by decide) rfl 12 tw_287 rfl 40 rfl (by decide +kernel) ?_
        obtain ⟨r40, σ39, hcr40, hf⟩ := cl2_e hf
        rcases r40 with _ | b41
        · have hf := onul_n hf
          refine v_cVN C 7 rfl (ns_kd_lt hk_b38 (by decide)) hk_b38 (by decide) [] [] (c_World_newMule G l σ35 b38 hcr40) 168 0 tw_477 tw_474 tw_476 ts_14 tw_2 hd_World_newMule rfl ⟨(Nat.le_of_ble_eq_true rfl), (Nat.le_of_ble_eq_true rfl)⟩ ⟨(Nat.le_of_ble_eq_true rfl), (Nat.le_of_ble_eq_true rfl)⟩ (Nat.le_of_ble_eq_true rfl) rfl 43 rfl (by decide +kernel) [.null] rfl ?_
          refine v_astoreN C 4 [(4, .null), (0, .ref (G.1 + a0)), (1, .int x1), (2, .int x2), (3, .int x3)] (by decide) rfl 45 rfl (by decide +kernel) ?_
          refine v_aloadN C 4 0 rfl 47 rfl (by decide +kernel) ?_
          refine v_ifnonnullN C 57 50 rfl (by decide +kernel) ?_
          refine v_aload_n C 0 1 rfl 51 rfl (by decide +kernel) ?_
          refine v_bipush C (-6) (-6) (by decide) 53 rfl (by decide +kernel) ?_
          obtain ⟨r43, σ42, hcr43, hf⟩ := cl2_e hf
          refine v_cV C 8 rfl (ns_kd_lt hk_a0 (by decide)) hk_a0 (by decide) [.int (-6 : Int32)] [] (c_N_refuse G l σ39 a0 (-6 : Int32) hcr43) 79 1 tw_338 tw_335 tw_337 ts_1 tw_1 hd_N_refuse rfl ⟨(Nat.le_of_ble_eq_true rfl), (Nat.le_of_ble_eq_true rfl)⟩ ⟨(Nat.le_of_ble_eq_true rfl), (Nat.le_of_ble_eq_true rfl)⟩ (Nat.le_of_ble_eq_true rfl) rfl 56 rfl (by decide +kernel) [.int r43] rfl ?_
          obtain ⟨rfl, rfl⟩ := ret_e hf
          exact v_iret C hr (by decide +kernel)
        · have hf := onul_s hf
          obtain ⟨hk_b41, hf⟩ := grd_e hf
          refine v_cVN C 7 rfl (ns_kd_lt hk_b38 (by decide)) hk_b38 (by decide) [] [] (c_World_newMule G l σ35 b38 hcr40) 168 0 tw_477 tw_474 tw_476 ts_14 tw_2 hd_World_newMule rfl ⟨(Nat.le_of_ble_eq_true rfl), (Nat.le_of_ble_eq_true rfl)⟩ ⟨(Nat.le_of_ble_eq_true rfl), (Nat.le_of_ble_eq_true rfl)⟩ (Nat.le_of_ble_eq_true rfl) rfl 43 rfl (by decide +kernel) [.ref (G.1 + b41)] rfl ?_
          refine v_astore C 4 [(4, .ref (G.1 + b41)), (0, .ref (G.1 + a0)), (1, .int x1), (2, .int x2), (3, .int x3)] (by decide) rfl 45 rfl (by decide +kernel) ?_
          refine v_aload C 4 0 rfl 47 rfl (by decide +kernel) ?_
          refine v_ifnonnull C 57 (by decide +kernel) ?_
          refine v_aload C 4 0 rfl 59 rfl (by decide +kernel) ?_
          refine v_iload_n C 1 2 rfl 60 rfl (by decide +kernel) ?_
          refine v_iload_n C 2 3 rfl 61 rfl (by decide +kernel) ?_
          refine v_iload_n C 3 4 rfl 62 rfl (by decide +kernel) ?_
          obtain ⟨r45, σ44, hcr45, hf⟩ := cl2_e hf
          refine v_cVN C 2 rfl (ns_kd_lt hk_b41 (by decide)) hk_b41 (by decide) [.int x1, .int x2, .int x3] [] (c_Mule_become G l σ39 b41 x1 x2 x3 hcr45) 172 3 tw_481 tw_478 tw_480 ts_15 tw_4 hd_Mule_become rfl ⟨(Nat.le_of_ble_eq_true rfl), (Nat.le_of_ble_eq_true rfl)⟩ ⟨(Nat.le_of_ble_eq_true rfl), (Nat.le_of_ble_eq_true rfl)⟩ (Nat.le_of_ble_eq_true rfl) rfl 65 rfl (by decide +kernel) [] rfl ?_
          refine v_aload_n C 0 1 rfl 66 rfl (by decide +kernel) ?_
          obtain ⟨b46, hb46, hf⟩ := drf_e hf
          obtain ⟨hk_b46, hf⟩ := grd_e hf
          refine v_getR C 8 0 hb46 rfl nin_8 (ns_kd_lt hk_a0 (by decide)) hk_a0 (by decide) (by decide) rfl 12 tw_287 rfl 69 rfl (by decide +kernel) ?_
          refine v_getIN C 7 2 rfl nin_7 (ns_kd_lt hk_b46 (by decide)) hk_b46 (by decide) (by decide) rfl 135 tw_135 rfl 72 rfl (by decide +kernel) ?_
          refine v_iconst C (1) (1) (by decide) 73 rfl (by decide +kernel) ?_
          refine v_isub C 74 rfl (by decide +kernel) ?_
          obtain ⟨rfl, rfl⟩ := ret_e hf
          exact v_iret C hr (by decide +kernel)
      · have hf := ite2_t hf h37
        refine v_aload_n C 0 0 rfl 30 rfl (by decide +kernel) ?_
        refine v_bipush C (-2) (-2) (by decide) 32 rfl (by decide +kernel) ?_
        obtain ⟨r48, σ47, hcr48, hf⟩ := cl2_e hf
        refine v_cV C 8 rfl (ns_kd_lt hk_a0 (by decide)) hk_a0 (by decide) [.int (-2 : Int32)] [] (c_N_refuse G l σ35 a0 (-2 : Int32) hcr48) 79 1 tw_338 tw_335 tw_337 ts_1 tw_1 hd_N_refuse rfl ⟨(Nat.le_of_ble_eq_true rfl), (Nat.le_of_ble_eq_true rfl)⟩ ⟨(Nat.le_of_ble_eq_true rfl), (Nat.le_of_ble_eq_true rfl)⟩ (Nat.le_of_ble_eq_true rfl) rfl 35 rfl (by decide +kernel) [.int r48] rfl ?_
        obtain ⟨rfl, rfl⟩ := ret_e hf
        exact v_iret C hr (by decide +kernel)
theorem hd_N_mule : (⟨"NinthStep", "mule", "(III)I"⟩ : MethodName).cls = "NinthStep" ∧ (⟨"NinthStep", "mule", "(III)I"⟩ : MethodName).cls ≠ "java/lang/invoke/MethodHandle" ∧ (⟨"NinthStep", "mule", "(III)I"⟩ : MethodName).cls ≠ "java/lang/invoke/VarHandle" ∧ (parseMethodDescriptor (⟨"NinthStep", "mule", "(III)I"⟩ : MethodName).desc).map (fun d => d.parameters.length) = some 3 := by decide +kernel
def g_N_stand (σ : ns_St) (a0 : Nat) (x1 : Int32) (x2 : Int32) (x3 : Int32) : Option (Int32 × ns_St) := grd (ns_kd a0 = 8) <| drf (σ.2.2 a0 0) fun b20 => grd (ns_kd b20 = 7) <| cl2 (g_World_muleAt σ b20 x1) fun r22 σ21 => onul r22 (cl2 (g_N_refuse σ21 a0 (-2 : Int32)) fun r25 σ24 => some (r25, σ24)) (fun b23 => grd (ns_kd b23 = 2) <| cl2 (g_N_isPlace σ21 a0 x2) fun r27 σ26 => ite2 (r27 = 0) (cl2 (g_N_refuse σ26 a0 (-2 : Int32)) fun r30 σ29 => some (r30, σ29)) (cl2 (g_N_isWithin σ26 x3 (0 : Int32) ((σ26.1 b23 1) - (1 : Int32))) fun r32 σ31 => ite2 (r32 = 0) (cl2 (g_N_refuse σ31 a0 (-2 : Int32)) fun r38 σ37 => some (r38, σ37)) (bnd (σ31.1 b23 2) fun z34 => bnd (ns_pI σ31 b23 2 x2) fun σ35 => bnd (ns_pI σ35 b23 3 x3) fun σ36 => some (z34, σ36))))
theorem c_N_stand (G : ns_G) (l : Launch) (σ : ns_St) (a0 : Nat) (x1 : Int32) (x2 : Int32) (x3 : Int32) {r : Int32} {σ' : ns_St} (hf : g_N_stand σ a0 x1 x2 x3 = some (r, σ')) : ns_ok G l ⟨"NinthStep", "stand", "(III)I"⟩ prog_1_method_12_code 6 (some .int) 2 44 0 0 [.ref (G.1 + a0), .int x1, .int x2, .int x3] ns_N σ (some (.int r)) ns_N σ' := by
  refine v_open (by decide) (Nat.le_of_ble_eq_true rfl) rfl ?_
  intro p e s m below meth c C hr _
  have C : ns_Cx G p s m _ meth c prog_1_method_12_code "NinthStep" 6 := C
  unfold g_N_stand at hf
  obtain ⟨hk_a0, hf⟩ := grd_e hf
  refine v_aload_n C 0 0 rfl 1 rfl (by decide +kernel) ?_
  obtain ⟨b20, hb20, hf⟩ := drf_e hf
  obtain ⟨hk_b20, hf⟩ := grd_e hf
  refine v_getR C 8 0 hb20 rfl nin_8 (ns_kd_lt hk_a0 (by decide)) hk_a0 (by decide) (by decide) rfl 12 tw_287 rfl 4 rfl (by decide +kernel) ?_
  refine v_iload_n C 1 1 rfl 5 rfl (by decide +kernel) ?_
  obtain ⟨r22, σ21, hcr22, hf⟩ := cl2_e hf
  rcases r22 with _ | b23
  · have hf := onul_n hf
    refine v_cVN C 7 rfl (ns_kd_lt hk_b20 (by decide)) hk_b20 (by decide) [.int x1] [] (c_World_muleAt G l σ b20 x1 hcr22) 120 1 tw_390 tw_387 tw_389 ts_7 tw_2 hd_World_muleAt rfl ⟨(Nat.le_of_ble_eq_true rfl), (Nat.le_of_ble_eq_true rfl)⟩ ⟨(Nat.le_of_ble_eq_true rfl), (Nat.le_of_ble_eq_true rfl)⟩ (Nat.le_of_ble_eq_true rfl) rfl 8 rfl (by decide +kernel) [.null] rfl ?_
    refine v_astoreN C 4 [(4, .null), (0, .ref (G.1 + a0)), (1, .int x1), (2, .int x2), (3, .int x3)] (by decide) rfl 10 rfl (by decide +kernel) ?_
    refine v_aloadN C 4 0 rfl 12 rfl (by decide +kernel) ?_
    refine v_ifnullN C 38 (by decide +kernel) ?_
    refine v_aload_n C 0 1 rfl 39 rfl (by decide +kernel) ?_
    refine v_bipush C (-2) (-2) (by decide) 41 rfl (by decide +kernel) ?_
    obtain ⟨r25, σ24, hcr25, hf⟩ := cl2_e hf
    refine v_cV C 8 rfl (ns_kd_lt hk_a0 (by decide)) hk_a0 (by decide) [.int (-2 : Int32)] [] (c_N_refuse G l σ21 a0 (-2 : Int32) hcr25) 79 1 tw_338 tw_335 tw_337 ts_1 tw_1 hd_N_refuse rfl ⟨(Nat.le_of_ble_eq_true rfl), (Nat.le_of_ble_eq_true rfl)⟩ ⟨(Nat.le_of_ble_eq_true rfl), (Nat.le_of_ble_eq_true rfl)⟩ (Nat.le_of_ble_eq_true rfl) rfl 44 rfl (by decide +kernel) [.int r25] rfl ?_
    obtain ⟨rfl, rfl⟩ := ret_e hf
    exact v_iret C hr (by decide +kernel)
  · have hf := onul_s hf
    obtain ⟨hk_b23, hf⟩ := grd_e hf
    refine v_cVN C 7 rfl (ns_kd_lt hk_b20 (by decide)) hk_b20 (by decide) [.int x1] [] (c_World_muleAt G l σ b20 x1 hcr22) 120 1 tw_390 tw_387 tw_389 ts_7 tw_2 hd_World_muleAt rfl ⟨(Nat.le_of_ble_eq_true rfl), (Nat.le_of_ble_eq_true rfl)⟩ ⟨(Nat.le_of_ble_eq_true rfl), (Nat.le_of_ble_eq_true rfl)⟩ (Nat.le_of_ble_eq_true rfl) rfl 8 rfl (by decide +kernel) [.ref (G.1 + b23)] rfl ?_
    refine v_astore C 4 [(4, .ref (G.1 + b23)), (0, .ref (G.1 + a0)), (1, .int x1), (2, .int x2), (3, .int x3)] (by decide) rfl 10 rfl (by decide +kernel) ?_
    refine v_aload C 4 0 rfl 12 rfl (by decide +kernel) ?_
    refine v_ifnull C 38 15 rfl (by decide +kernel) ?_
    refine v_aload_n C 0 1 rfl 16 rfl (by decide +kernel) ?_
    refine v_iload_n C 2 3 rfl 17 rfl (by decide +kernel) ?_
    obtain ⟨r27, σ26, hcr27, hf⟩ := cl2_e hf
    refine v_cV C 8 rfl (ns_kd_lt hk_a0 (by decide)) hk_a0 (by decide) [.int x2] [] (c_N_isPlace G l σ21 a0 x2 hcr27) 150 1 tw_448 tw_445 tw_447 ts_10 tw_1 hd_N_isPlace rfl ⟨(Nat.le_of_ble_eq_true rfl), (Nat.le_of_ble_eq_true rfl)⟩ ⟨(Nat.le_of_ble_eq_true rfl), (Nat.le_of_ble_eq_true rfl)⟩ (Nat.le_of_ble_eq_true rfl) rfl 20 rfl (by decide +kernel) [.int r27] rfl ?_
    refine v_if_eq C 38 23 rfl (by decide +kernel) (fun h28 => ?_) (fun h28 => ?_)
    · have hf := ite2_t hf h28
      refine v_aload_n C 0 1 rfl 39 rfl (by decide +kernel) ?_
      refine v_bipush C (-2) (-2) (by decide) 41 rfl (by decide +kernel) ?_
      obtain ⟨r30, σ29, hcr30, hf⟩ := cl2_e hf
      refine v_cV C 8 rfl (ns_kd_lt hk_a0 (by decide)) hk_a0 (by decide) [.int (-2 : Int32)] [] (c_N_refuse G l σ26 a0 (-2 : Int32) hcr30) 79 1 tw_338 tw_335 tw_337 ts_1 tw_1 hd_N_refuse rfl ⟨(Nat.le_of_ble_eq_true rfl), (Nat.le_of_ble_eq_true rfl)⟩ ⟨(Nat.le_of_ble_eq_true rfl), (Nat.le_of_ble_eq_true rfl)⟩ (Nat.le_of_ble_eq_true rfl) rfl 44 rfl (by decide +kernel) [.int r30] rfl ?_
      obtain ⟨rfl, rfl⟩ := ret_e hf
      exact v_iret C hr (by decide +kernel)
    · have hf := ite2_f hf h28
      refine v_iload_n C 3 4 rfl 24 rfl (by decide +kernel) ?_
      refine v_iconst C (0) (0) (by decide) 25 rfl (by decide +kernel) ?_
      refine v_aload C 4 0 rfl 27 rfl (by decide +kernel) ?_
      refine v_getIN C 2 1 rfl nin_2 (ns_kd_lt hk_b23 (by decide)) hk_b23 (by decide) (by decide) rfl 176 tw_86 rfl 30 rfl (by decide +kernel) ?_
      refine v_iconst C (1) (1) (by decide) 31 rfl (by decide +kernel) ?_
      refine v_isub C 32 rfl (by decide +kernel) ?_
      obtain ⟨r32, σ31, hcr32, hf⟩ := cl2_e hf
      refine v_cS C [.int x3, .int (0 : Int32), .int ((σ26.1 b23 1) - (1 : Int32))] [] (c_N_isWithin G l σ26 x3 (0 : Int32) ((σ26.1 b23 1) - (1 : Int32)) hcr32) 75 3 tw_334 tw_332 tw_333 tw_1 hd_N_isWithin rfl ⟨(Nat.le_of_ble_eq_true rfl), (Nat.le_of_ble_eq_true rfl)⟩ ⟨(Nat.le_of_ble_eq_true rfl), (Nat.le_of_ble_eq_true rfl)⟩ (Nat.le_of_ble_eq_true rfl) rfl 35 rfl (by decide +kernel) [.int r32] rfl ?_
      refine v_if_ne C 45 38 rfl (by decide +kernel) (fun h33 => ?_) (fun h33 => ?_)
      · have hf := ite2_f hf h33
        refine v_aload C 4 0 rfl 47 rfl (by decide +kernel) ?_
        refine v_getIN C 2 2 rfl nin_2 (ns_kd_lt hk_b23 (by decide)) hk_b23 (by decide) (by decide) rfl 179 tw_93 rfl 50 rfl (by decide +kernel) ?_
        obtain ⟨z34, hz34, hf⟩ := bnd_e hf
        refine v_nmI hz34 ?_
        refine v_istore C 5 [(5, .int z34), (4, .ref (G.1 + b23)), (0, .ref (G.1 + a0)), (1, .int x1), (2, .int x2), (3, .int x3)] (by decide) rfl 52 rfl (by decide +kernel) ?_
        refine v_aload C 4 1 rfl 54 rfl (by decide +kernel) ?_
        refine v_iload_n C 2 4 rfl 55 rfl (by decide +kernel) ?_
        obtain ⟨σ35, hσ35, hf⟩ := bnd_e hf
        refine v_putIN C 2 2 hσ35 rfl nin_2 ny_2 nty_2 nnm_2 (ns_kd_lt hk_b23 (by decide)) hk_b23 (by decide) (by decide) rfl rfl rfl rfl 179 tw_93 rfl 58 rfl (by decide +kernel) ?_
        refine v_aload C 4 1 rfl 60 rfl (by decide +kernel) ?_
        refine v_iload_n C 3 5 rfl 61 rfl (by decide +kernel) ?_
        obtain ⟨σ36, hσ36, hf⟩ := bnd_e hf
        refine v_putIN C 2 3 hσ36 rfl nin_2 ny_2 nty_2 nnm_2 (ns_kd_lt hk_b23 (by decide)) hk_b23 (by decide) (by decide) rfl rfl rfl rfl 182 tw_97 rfl 64 rfl (by decide +kernel) ?_
        refine v_iload C 5 0 rfl 66 rfl (by decide +kernel) ?_
        obtain ⟨rfl, rfl⟩ := ret_e hf
        exact v_iret C hr (by decide +kernel)
      · have hf := ite2_t hf h33
        refine v_aload_n C 0 1 rfl 39 rfl (by decide +kernel) ?_
        refine v_bipush C (-2) (-2) (by decide) 41 rfl (by decide +kernel) ?_
        obtain ⟨r38, σ37, hcr38, hf⟩ := cl2_e hf
        refine v_cV C 8 rfl (ns_kd_lt hk_a0 (by decide)) hk_a0 (by decide) [.int (-2 : Int32)] [] (c_N_refuse G l σ31 a0 (-2 : Int32) hcr38) 79 1 tw_338 tw_335 tw_337 ts_1 tw_1 hd_N_refuse rfl ⟨(Nat.le_of_ble_eq_true rfl), (Nat.le_of_ble_eq_true rfl)⟩ ⟨(Nat.le_of_ble_eq_true rfl), (Nat.le_of_ble_eq_true rfl)⟩ (Nat.le_of_ble_eq_true rfl) rfl 44 rfl (by decide +kernel) [.int r38] rfl ?_
        obtain ⟨rfl, rfl⟩ := ret_e hf
        exact v_iret C hr (by decide +kernel)
theorem hd_N_stand : (⟨"NinthStep", "stand", "(III)I"⟩ : MethodName).cls = "NinthStep" ∧ (⟨"NinthStep", "stand", "(III)I"⟩ : MethodName).cls ≠ "java/lang/invoke/MethodHandle" ∧ (⟨"NinthStep", "stand", "(III)I"⟩ : MethodName).cls ≠ "java/lang/invoke/VarHandle" ∧ (parseMethodDescriptor (⟨"NinthStep", "stand", "(III)I"⟩ : MethodName).desc).map (fun d => d.parameters.length) = some 3 := by decide +kernel
def g_N_teach (σ : ns_St) (a0 : Nat) (x1 : Int32) (x2 : Int32) : Option (Int32 × ns_St) := grd (ns_kd a0 = 8) <| drf (σ.2.2 a0 0) fun b15 => grd (ns_kd b15 = 7) <| cl2 (g_World_muleAt σ b15 x1) fun r17 σ16 => onul r17 (cl2 (g_N_refuse σ16 a0 (-2 : Int32)) fun r20 σ19 => some (r20, σ19)) (fun b18 => grd (ns_kd b18 = 2) <| cl2 (g_N_isWithin σ16 x2 (2 : Int32) (13 : Int32)) fun r22 σ21 => ite2 (r22 = 0) (cl2 (g_N_refuse σ21 a0 (-2 : Int32)) fun r28 σ27 => some (r28, σ27)) (bnd (σ21.1 b18 1) fun z24 => bnd (ns_pI σ21 b18 1 x2) fun σ25 => bnd (ns_pI σ25 b18 3 (0 : Int32)) fun σ26 => some (z24, σ26)))
theorem c_N_teach (G : ns_G) (l : Launch) (σ : ns_St) (a0 : Nat) (x1 : Int32) (x2 : Int32) {r : Int32} {σ' : ns_St} (hf : g_N_teach σ a0 x1 x2 = some (r, σ')) : ns_ok G l ⟨"NinthStep", "teach", "(II)I"⟩ prog_1_method_13_code 5 (some .int) 2 44 0 0 [.ref (G.1 + a0), .int x1, .int x2] ns_N σ (some (.int r)) ns_N σ' := by
  refine v_open (by decide) (Nat.le_of_ble_eq_true rfl) rfl ?_
  intro p e s m below meth c C hr _
  have C : ns_Cx G p s m _ meth c prog_1_method_13_code "NinthStep" 5 := C
  unfold g_N_teach at hf
  obtain ⟨hk_a0, hf⟩ := grd_e hf
  refine v_aload_n C 0 0 rfl 1 rfl (by decide +kernel) ?_
  obtain ⟨b15, hb15, hf⟩ := drf_e hf
  obtain ⟨hk_b15, hf⟩ := grd_e hf
  refine v_getR C 8 0 hb15 rfl nin_8 (ns_kd_lt hk_a0 (by decide)) hk_a0 (by decide) (by decide) rfl 12 tw_287 rfl 4 rfl (by decide +kernel) ?_
  refine v_iload_n C 1 1 rfl 5 rfl (by decide +kernel) ?_
  obtain ⟨r17, σ16, hcr17, hf⟩ := cl2_e hf
  rcases r17 with _ | b18
  · have hf := onul_n hf
    refine v_cVN C 7 rfl (ns_kd_lt hk_b15 (by decide)) hk_b15 (by decide) [.int x1] [] (c_World_muleAt G l σ b15 x1 hcr17) 120 1 tw_390 tw_387 tw_389 ts_7 tw_2 hd_World_muleAt rfl ⟨(Nat.le_of_ble_eq_true rfl), (Nat.le_of_ble_eq_true rfl)⟩ ⟨(Nat.le_of_ble_eq_true rfl), (Nat.le_of_ble_eq_true rfl)⟩ (Nat.le_of_ble_eq_true rfl) rfl 8 rfl (by decide +kernel) [.null] rfl ?_
    refine v_astore_nN C 3 [(3, .null), (0, .ref (G.1 + a0)), (1, .int x1), (2, .int x2)] (by decide) rfl 9 rfl (by decide +kernel) ?_
    refine v_aload_nN C 3 0 rfl 10 rfl (by decide +kernel) ?_
    refine v_ifnullN C 23 (by decide +kernel) ?_
    refine v_aload_n C 0 1 rfl 24 rfl (by decide +kernel) ?_
    refine v_bipush C (-2) (-2) (by decide) 26 rfl (by decide +kernel) ?_
    obtain ⟨r20, σ19, hcr20, hf⟩ := cl2_e hf
    refine v_cV C 8 rfl (ns_kd_lt hk_a0 (by decide)) hk_a0 (by decide) [.int (-2 : Int32)] [] (c_N_refuse G l σ16 a0 (-2 : Int32) hcr20) 79 1 tw_338 tw_335 tw_337 ts_1 tw_1 hd_N_refuse rfl ⟨(Nat.le_of_ble_eq_true rfl), (Nat.le_of_ble_eq_true rfl)⟩ ⟨(Nat.le_of_ble_eq_true rfl), (Nat.le_of_ble_eq_true rfl)⟩ (Nat.le_of_ble_eq_true rfl) rfl 29 rfl (by decide +kernel) [.int r20] rfl ?_
    obtain ⟨rfl, rfl⟩ := ret_e hf
    exact v_iret C hr (by decide +kernel)
  · have hf := onul_s hf
    obtain ⟨hk_b18, hf⟩ := grd_e hf
    refine v_cVN C 7 rfl (ns_kd_lt hk_b15 (by decide)) hk_b15 (by decide) [.int x1] [] (c_World_muleAt G l σ b15 x1 hcr17) 120 1 tw_390 tw_387 tw_389 ts_7 tw_2 hd_World_muleAt rfl ⟨(Nat.le_of_ble_eq_true rfl), (Nat.le_of_ble_eq_true rfl)⟩ ⟨(Nat.le_of_ble_eq_true rfl), (Nat.le_of_ble_eq_true rfl)⟩ (Nat.le_of_ble_eq_true rfl) rfl 8 rfl (by decide +kernel) [.ref (G.1 + b18)] rfl ?_
    refine v_astore_n C 3 [(3, .ref (G.1 + b18)), (0, .ref (G.1 + a0)), (1, .int x1), (2, .int x2)] (by decide) rfl 9 rfl (by decide +kernel) ?_
    refine v_aload_n C 3 0 rfl 10 rfl (by decide +kernel) ?_
    refine v_ifnull C 23 13 rfl (by decide +kernel) ?_
    refine v_iload_n C 2 3 rfl 14 rfl (by decide +kernel) ?_
    refine v_iconst C (2) (2) (by decide) 15 rfl (by decide +kernel) ?_
    refine v_bipush C (13) (13) (by decide) 17 rfl (by decide +kernel) ?_
    obtain ⟨r22, σ21, hcr22, hf⟩ := cl2_e hf
    refine v_cS C [.int x2, .int (2 : Int32), .int (13 : Int32)] [] (c_N_isWithin G l σ16 x2 (2 : Int32) (13 : Int32) hcr22) 75 3 tw_334 tw_332 tw_333 tw_1 hd_N_isWithin rfl ⟨(Nat.le_of_ble_eq_true rfl), (Nat.le_of_ble_eq_true rfl)⟩ ⟨(Nat.le_of_ble_eq_true rfl), (Nat.le_of_ble_eq_true rfl)⟩ (Nat.le_of_ble_eq_true rfl) rfl 20 rfl (by decide +kernel) [.int r22] rfl ?_
    refine v_if_ne C 30 23 rfl (by decide +kernel) (fun h23 => ?_) (fun h23 => ?_)
    · have hf := ite2_f hf h23
      refine v_aload_n C 3 0 rfl 31 rfl (by decide +kernel) ?_
      refine v_getIN C 2 1 rfl nin_2 (ns_kd_lt hk_b18 (by decide)) hk_b18 (by decide) (by decide) rfl 176 tw_86 rfl 34 rfl (by decide +kernel) ?_
      obtain ⟨z24, hz24, hf⟩ := bnd_e hf
      refine v_nmI hz24 ?_
      refine v_istore C 4 [(4, .int z24), (3, .ref (G.1 + b18)), (0, .ref (G.1 + a0)), (1, .int x1), (2, .int x2)] (by decide) rfl 36 rfl (by decide +kernel) ?_
      refine v_aload_n C 3 1 rfl 37 rfl (by decide +kernel) ?_
      refine v_iload_n C 2 4 rfl 38 rfl (by decide +kernel) ?_
      obtain ⟨σ25, hσ25, hf⟩ := bnd_e hf
      refine v_putIN C 2 1 hσ25 rfl nin_2 ny_2 nty_2 nnm_2 (ns_kd_lt hk_b18 (by decide)) hk_b18 (by decide) (by decide) rfl rfl rfl rfl 176 tw_86 rfl 41 rfl (by decide +kernel) ?_
      refine v_aload_n C 3 1 rfl 42 rfl (by decide +kernel) ?_
      refine v_iconst C (0) (0) (by decide) 43 rfl (by decide +kernel) ?_
      obtain ⟨σ26, hσ26, hf⟩ := bnd_e hf
      refine v_putIN C 2 3 hσ26 rfl nin_2 ny_2 nty_2 nnm_2 (ns_kd_lt hk_b18 (by decide)) hk_b18 (by decide) (by decide) rfl rfl rfl rfl 182 tw_97 rfl 46 rfl (by decide +kernel) ?_
      refine v_iload C 4 0 rfl 48 rfl (by decide +kernel) ?_
      obtain ⟨rfl, rfl⟩ := ret_e hf
      exact v_iret C hr (by decide +kernel)
    · have hf := ite2_t hf h23
      refine v_aload_n C 0 1 rfl 24 rfl (by decide +kernel) ?_
      refine v_bipush C (-2) (-2) (by decide) 26 rfl (by decide +kernel) ?_
      obtain ⟨r28, σ27, hcr28, hf⟩ := cl2_e hf
      refine v_cV C 8 rfl (ns_kd_lt hk_a0 (by decide)) hk_a0 (by decide) [.int (-2 : Int32)] [] (c_N_refuse G l σ21 a0 (-2 : Int32) hcr28) 79 1 tw_338 tw_335 tw_337 ts_1 tw_1 hd_N_refuse rfl ⟨(Nat.le_of_ble_eq_true rfl), (Nat.le_of_ble_eq_true rfl)⟩ ⟨(Nat.le_of_ble_eq_true rfl), (Nat.le_of_ble_eq_true rfl)⟩ (Nat.le_of_ble_eq_true rfl) rfl 29 rfl (by decide +kernel) [.int r28] rfl ?_
      obtain ⟨rfl, rfl⟩ := ret_e hf
      exact v_iret C hr (by decide +kernel)
theorem hd_N_teach : (⟨"NinthStep", "teach", "(II)I"⟩ : MethodName).cls = "NinthStep" ∧ (⟨"NinthStep", "teach", "(II)I"⟩ : MethodName).cls ≠ "java/lang/invoke/MethodHandle" ∧ (⟨"NinthStep", "teach", "(II)I"⟩ : MethodName).cls ≠ "java/lang/invoke/VarHandle" ∧ (parseMethodDescriptor (⟨"NinthStep", "teach", "(II)I"⟩ : MethodName).desc).map (fun d => d.parameters.length) = some 2 := by decide +kernel
def g_N_slip (σ : ns_St) (a0 : Nat) (x1 : Int32) : Option (Int32 × ns_St) := grd (ns_kd a0 = 8) <| cl2 (g_N_isWithin σ x1 (0 : Int32) (1000 : Int32)) fun r11 σ10 => ite2 (r11 = 0) (cl2 (g_N_refuse σ10 a0 (-2 : Int32)) fun r18 σ17 => some (r18, σ17)) (drf (σ10.2.2 a0 0) fun b13 => grd (ns_kd b13 = 7) <| bnd (σ10.1 b13 3) fun z14 => drf (σ10.2.2 a0 0) fun b15 => grd (ns_kd b15 = 7) <| bnd (ns_pI σ10 b15 3 x1) fun σ16 => some (z14, σ16))
theorem c_N_slip (G : ns_G) (l : Launch) (σ : ns_St) (a0 : Nat) (x1 : Int32) {r : Int32} {σ' : ns_St} (hf : g_N_slip σ a0 x1 = some (r, σ')) : ns_ok G l ⟨"NinthStep", "slip", "(I)I"⟩ prog_1_method_14_code 3 (some .int) 2 44 0 0 [.ref (G.1 + a0), .int x1] ns_N σ (some (.int r)) ns_N σ' := by
  refine v_open (by decide) (Nat.le_of_ble_eq_true rfl) rfl ?_
  intro p e s m below meth c C hr _
  have C : ns_Cx G p s m _ meth c prog_1_method_14_code "NinthStep" 3 := C
  unfold g_N_slip at hf
  obtain ⟨hk_a0, hf⟩ := grd_e hf
  refine v_iload_n C 1 1 rfl 1 rfl (by decide +kernel) ?_
  refine v_iconst C (0) (0) (by decide) 2 rfl (by decide +kernel) ?_
  refine v_sipush C (1000) (1000) (by decide) 5 rfl (by decide +kernel) ?_
  obtain ⟨r11, σ10, hcr11, hf⟩ := cl2_e hf
  refine v_cS C [.int x1, .int (0 : Int32), .int (1000 : Int32)] [] (c_N_isWithin G l σ x1 (0 : Int32) (1000 : Int32) hcr11) 75 3 tw_334 tw_332 tw_333 tw_1 hd_N_isWithin rfl ⟨(Nat.le_of_ble_eq_true rfl), (Nat.le_of_ble_eq_true rfl)⟩ ⟨(Nat.le_of_ble_eq_true rfl), (Nat.le_of_ble_eq_true rfl)⟩ (Nat.le_of_ble_eq_true rfl) rfl 8 rfl (by decide +kernel) [.int r11] rfl ?_
  refine v_if_ne C 18 11 rfl (by decide +kernel) (fun h12 => ?_) (fun h12 => ?_)
  · have hf := ite2_f hf h12
    refine v_aload_n C 0 0 rfl 19 rfl (by decide +kernel) ?_
    obtain ⟨b13, hb13, hf⟩ := drf_e hf
    obtain ⟨hk_b13, hf⟩ := grd_e hf
    refine v_getR C 8 0 hb13 rfl nin_8 (ns_kd_lt hk_a0 (by decide)) hk_a0 (by decide) (by decide) rfl 12 tw_287 rfl 22 rfl (by decide +kernel) ?_
    refine v_getIN C 7 3 rfl nin_7 (ns_kd_lt hk_b13 (by decide)) hk_b13 (by decide) (by decide) rfl 185 tw_137 rfl 25 rfl (by decide +kernel) ?_
    obtain ⟨z14, hz14, hf⟩ := bnd_e hf
    refine v_nmI hz14 ?_
    refine v_istore_n C 2 [(2, .int z14), (0, .ref (G.1 + a0)), (1, .int x1)] (by decide) rfl 26 rfl (by decide +kernel) ?_
    refine v_aload_n C 0 1 rfl 27 rfl (by decide +kernel) ?_
    obtain ⟨b15, hb15, hf⟩ := drf_e hf
    obtain ⟨hk_b15, hf⟩ := grd_e hf
    refine v_getR C 8 0 hb15 rfl nin_8 (ns_kd_lt hk_a0 (by decide)) hk_a0 (by decide) (by decide) rfl 12 tw_287 rfl 30 rfl (by decide +kernel) ?_
    refine v_iload_n C 1 2 rfl 31 rfl (by decide +kernel) ?_
    obtain ⟨σ16, hσ16, hf⟩ := bnd_e hf
    refine v_putIN C 7 3 hσ16 rfl nin_7 ny_7 nty_7 nnm_7 (ns_kd_lt hk_b15 (by decide)) hk_b15 (by decide) (by decide) rfl rfl rfl rfl 185 tw_137 rfl 34 rfl (by decide +kernel) ?_
    refine v_iload_n C 2 0 rfl 35 rfl (by decide +kernel) ?_
    obtain ⟨rfl, rfl⟩ := ret_e hf
    exact v_iret C hr (by decide +kernel)
  · have hf := ite2_t hf h12
    refine v_aload_n C 0 0 rfl 12 rfl (by decide +kernel) ?_
    refine v_bipush C (-2) (-2) (by decide) 14 rfl (by decide +kernel) ?_
    obtain ⟨r18, σ17, hcr18, hf⟩ := cl2_e hf
    refine v_cV C 8 rfl (ns_kd_lt hk_a0 (by decide)) hk_a0 (by decide) [.int (-2 : Int32)] [] (c_N_refuse G l σ10 a0 (-2 : Int32) hcr18) 79 1 tw_338 tw_335 tw_337 ts_1 tw_1 hd_N_refuse rfl ⟨(Nat.le_of_ble_eq_true rfl), (Nat.le_of_ble_eq_true rfl)⟩ ⟨(Nat.le_of_ble_eq_true rfl), (Nat.le_of_ble_eq_true rfl)⟩ (Nat.le_of_ble_eq_true rfl) rfl 17 rfl (by decide +kernel) [.int r18] rfl ?_
    obtain ⟨rfl, rfl⟩ := ret_e hf
    exact v_iret C hr (by decide +kernel)
theorem hd_N_slip : (⟨"NinthStep", "slip", "(I)I"⟩ : MethodName).cls = "NinthStep" ∧ (⟨"NinthStep", "slip", "(I)I"⟩ : MethodName).cls ≠ "java/lang/invoke/MethodHandle" ∧ (⟨"NinthStep", "slip", "(I)I"⟩ : MethodName).cls ≠ "java/lang/invoke/VarHandle" ∧ (parseMethodDescriptor (⟨"NinthStep", "slip", "(I)I"⟩ : MethodName).desc).map (fun d => d.parameters.length) = some 1 := by decide +kernel
def g_Tape_append (σ : ns_St) (a0 : Nat) (x1 : Int32) : Option (Int32 × ns_St) := grd (ns_kd a0 = 5) <| ite2 ((σ.1 a0 1) < (250 : Int32)) (drf (σ.2.2 a0 0) fun b7 => grd (ns_kd b7 = 10) <| grd (ns_in (σ.1 a0 1) (ns_ln b7)) <| bnd (ns_pI σ b7 (ns_ix (σ.1 a0 1)) x1) fun σ9 => bnd (ns_pI σ9 a0 1 ((σ9.1 a0 1) + (1 : Int32))) fun σ10 => some ((1 : Int32), σ10)) (some ((0 : Int32), σ))
theorem c_Tape_append (G : ns_G) (l : Launch) (σ : ns_St) (a0 : Nat) (x1 : Int32) {r : Int32} {σ' : ns_St} (hf : g_Tape_append σ a0 x1 = some (r, σ')) : ns_ok G l ⟨"NinthStep$Tape", "append", "(I)Z"⟩ prog_7_method_2_code 2 (some .boolean) 0 0 0 0 [.ref (G.1 + a0), .int x1] ns_N σ (some (.int r)) ns_N σ' := by
  refine v_open (by decide) (Nat.le_of_ble_eq_true rfl) rfl ?_
  intro p e s m below meth c C hr _
  have C : ns_Cx G p s m _ meth c prog_7_method_2_code "NinthStep$Tape" 2 := C
  unfold g_Tape_append at hf
  obtain ⟨hk_a0, hf⟩ := grd_e hf
  refine v_aload_n C 0 0 rfl 1 rfl (by decide +kernel) ?_
  refine v_getI C 5 1 rfl nin_5 (ns_kd_lt hk_a0 (by decide)) hk_a0 (by decide) (by decide) rfl 15 tw_164 rfl 4 rfl (by decide +kernel) ?_
  refine v_sipush C (250) (250) (by decide) 7 rfl (by decide +kernel) ?_
  refine v_icmp_lt C 12 10 rfl (by decide +kernel) (fun h6 => ?_) (fun h6 => ?_)
  · have hf := ite2_t hf h6
    refine v_aload_n C 0 0 rfl 13 rfl (by decide +kernel) ?_
    obtain ⟨b7, hb7, hf⟩ := drf_e hf
    obtain ⟨hk_b7, hf⟩ := grd_e hf
    refine v_getR C 5 0 hb7 rfl nin_5 (ns_kd_lt hk_a0 (by decide)) hk_a0 (by decide) (by decide) rfl 9 tw_163 rfl 16 rfl (by decide +kernel) ?_
    refine v_aload_n C 0 0 rfl 17 rfl (by decide +kernel) ?_
    refine v_getI C 5 1 rfl nin_5 (ns_kd_lt hk_a0 (by decide)) hk_a0 (by decide) (by decide) rfl 15 tw_164 rfl 20 rfl (by decide +kernel) ?_
    refine v_iload_n C 1 1 rfl 21 rfl (by decide +kernel) ?_
    obtain ⟨hi8, hf⟩ := grd_e hf
    obtain ⟨σ9, hσ9, hf⟩ := bnd_e hf
    refine v_iast C hσ9 (ns_kd_lt hk_b7 (by decide)) hk_b7 hi8 22 rfl (by decide +kernel) ?_
    refine v_aload_n C 0 0 rfl 23 rfl (by decide +kernel) ?_
    refine v_dup C rfl 24 rfl (by decide +kernel) ?_
    refine v_getI C 5 1 rfl nin_5 (ns_kd_lt hk_a0 (by decide)) hk_a0 (by decide) (by decide) rfl 15 tw_164 rfl 27 rfl (by decide +kernel) ?_
    refine v_iconst C (1) (1) (by decide) 28 rfl (by decide +kernel) ?_
    refine v_iadd C 29 rfl (by decide +kernel) ?_
    obtain ⟨σ10, hσ10, hf⟩ := bnd_e hf
    refine v_putI C 5 1 hσ10 rfl nin_5 ny_5 nty_5 nnm_5 (ns_kd_lt hk_a0 (by decide)) hk_a0 (by decide) (by decide) rfl rfl rfl rfl 15 tw_164 rfl 32 rfl (by decide +kernel) ?_
    refine v_iconst C (1) (1) (by decide) 33 rfl (by decide +kernel) ?_
    obtain ⟨rfl, rfl⟩ := ret_e hf
    exact v_zret C hr rfl (by decide +kernel)
  · have hf := ite2_f hf h6
    refine v_iconst C (0) (0) (by decide) 11 rfl (by decide +kernel) ?_
    obtain ⟨rfl, rfl⟩ := ret_e hf
    exact v_zret C hr rfl (by decide +kernel)
theorem hd_Tape_append : (⟨"NinthStep$Tape", "append", "(I)Z"⟩ : MethodName).cls = "NinthStep$Tape" ∧ (⟨"NinthStep$Tape", "append", "(I)Z"⟩ : MethodName).cls ≠ "java/lang/invoke/MethodHandle" ∧ (⟨"NinthStep$Tape", "append", "(I)Z"⟩ : MethodName).cls ≠ "java/lang/invoke/VarHandle" ∧ (parseMethodDescriptor (⟨"NinthStep$Tape", "append", "(I)Z"⟩ : MethodName).desc).map (fun d => d.parameters.length) = some 1 := by decide +kernel
