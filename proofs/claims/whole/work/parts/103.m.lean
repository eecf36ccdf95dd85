def g_N_feed (σ : ns_St) (a0 : Nat) (x1 : Int32) : Option (Int32 × ns_St) := grd (ns_kd a0 = 8) <| cl2 (g_N_isWithin σ x1 (0 : Int32) (255 : Int32)) fun r14 σ13 => ite2 (r14 = 0) (cl2 (g_N_refuse σ13 a0 (-2 : Int32)) fun r24 σ23 => some (r24, σ23)) (drf (σ13.2.2 a0 4) fun b16 => grd (ns_kd b16 = 5) <| cl2 (g_Tape_append σ13 b16 x1) fun r18 σ17 => ite2 (r18 = 0) (cl2 (g_N_refuse σ17 a0 (-6 : Int32)) fun r22 σ21 => some (r22, σ21)) (drf (σ17.2.2 a0 4) fun b20 => grd (ns_kd b20 = 5) <| some ((σ17.1 b20 1), σ17)))
theorem c_N_feed (G : ns_G) (l : Launch) (σ : ns_St) (a0 : Nat) (x1 : Int32) {r : Int32} {σ' : ns_St} (hf : g_N_feed σ a0 x1 = some (r, σ')) : ns_ok G l ⟨"NinthStep", "feed", "(I)I"⟩ prog_1_method_15_code 2 (some .int) 2 44 0 0 [.ref (G.1 + a0), .int x1] ns_N σ (some (.int r)) ns_N σ' := by
  refine v_open (by decide) (Nat.le_of_ble_eq_true rfl) rfl ?_
  intro p e s m below meth c C hr _
  have C : ns_Cx G p s m _ meth c prog_1_method_15_code "NinthStep" 2 := C
  unfold g_N_feed at hf
  obtain ⟨hk_a0, hf⟩ := grd_e hf
  refine v_iload_n C 1 1 rfl 1 rfl (by decide +kernel) ?_
  refine v_iconst C (0) (0) (by decide) 2 rfl (by decide +kernel) ?_
  refine v_sipush C (255) (255) (by decide) 5 rfl (by decide +kernel) ?_
  obtain ⟨r14, σ13, hcr14, hf⟩ := cl2_e hf
  refine v_cS C [.int x1, .int (0 : Int32), .int (255 : Int32)] [] (c_N_isWithin G l σ x1 (0 : Int32) (255 : Int32) hcr14) 75 3 tw_334 tw_332 tw_333 tw_1 hd_N_isWithin rfl ⟨(Nat.le_of_ble_eq_true rfl), (Nat.le_of_ble_eq_true rfl)⟩ ⟨(Nat.le_of_ble_eq_true rfl), (Nat.le_of_ble_eq_true rfl)⟩ (Nat.le_of_ble_eq_true rfl) rfl 8 rfl (by decide +kernel) [.int r14] rfl ?_
  refine v_if_ne C 18 11 rfl (by decide +kernel) (fun h15 => ?_) (fun h15 => ?_)
  · have hf := ite2_f hf h15
    refine v_aload_n C 0 0 rfl 19 rfl (by decide +kernel) ?_
    obtain ⟨b16, hb16, hf⟩ := drf_e hf
    obtain ⟨hk_b16, hf⟩ := grd_e hf
    refine v_getR C 8 4 hb16 rfl nin_8 (ns_kd_lt hk_a0 (by decide)) hk_a0 (by decide) (by decide) rfl 31 tw_291 rfl 22 rfl (by decide +kernel) ?_
    refine v_iload_n C 1 1 rfl 23 rfl (by decide +kernel) ?_
    obtain ⟨r18, σ17, hcr18, hf⟩ := cl2_e hf
    refine v_cVN C 5 rfl (ns_kd_lt hk_b16 (by decide)) hk_b16 (by decide) [.int x1] [] (c_Tape_append G l σ13 b16 x1 hcr18) 188 1 tw_502 tw_499 tw_501 ts_16 tw_5 hd_Tape_append rfl ⟨(Nat.le_of_ble_eq_true rfl), (Nat.le_of_ble_eq_true rfl)⟩ ⟨(Nat.le_of_ble_eq_true rfl), (Nat.le_of_ble_eq_true rfl)⟩ (Nat.le_of_ble_eq_true rfl) rfl 26 rfl (by decide +kernel) [.int r18] rfl ?_
    refine v_if_ne C 36 29 rfl (by decide +kernel) (fun h19 => ?_) (fun h19 => ?_)
    · have hf := ite2_f hf h19
      refine v_aload_n C 0 0 rfl 37 rfl (by decide +kernel) ?_
      obtain ⟨b20, hb20, hf⟩ := drf_e hf
      obtain ⟨hk_b20, hf⟩ := grd_e hf
      refine v_getR C 8 4 hb20 rfl nin_8 (ns_kd_lt hk_a0 (by decide)) hk_a0 (by decide) (by decide) rfl 31 tw_291 rfl 40 rfl (by decide +kernel) ?_
      refine v_getIN C 5 1 rfl nin_5 (ns_kd_lt hk_b20 (by decide)) hk_b20 (by decide) (by decide) rfl 191 tw_165 rfl 43 rfl (by decide +kernel) ?_
      obtain ⟨rfl, rfl⟩ := ret_e hf
      exact v_iret C hr (by decide +kernel)
    · have hf := ite2_t hf h19
      refine v_aload_n C 0 0 rfl 30 rfl (by decide +kernel) ?_
      refine v_bipush C (-6) (-6) (by decide) 32 rfl (by decide +kernel) ?_
      obtain ⟨r22, σ21, hcr22, hf⟩ := cl2_e hf
      refine v_cV C 8 rfl (ns_kd_lt hk_a0 (by decide)) hk_a0 (by decide) [.int (-6 : Int32)] [] (c_N_refuse G l σ17 a0 (-6 : Int32) hcr22) 79 1 tw_338 tw_335 tw_337 ts_1 tw_1 hd_N_refuse rfl ⟨(Nat.le_of_ble_eq_true rfl), (Nat.le_of_ble_eq_true rfl)⟩ ⟨(Nat.le_of_ble_eq_true rfl), (Nat.le_of_ble_eq_true rfl)⟩ (Nat.le_of_ble_eq_true rfl) rfl 35 rfl (by decide +kernel) [.int r22] rfl ?_
      obtain ⟨rfl, rfl⟩ := ret_e hf
      exact v_iret C hr (by decide +kernel)
  · have hf := ite2_t hf h15
    refine v_aload_n C 0 0 rfl 12 rfl (by decide +kernel) ?_
    refine v_bipush C (-2) (-2) (by decide) 14 rfl (by decide +kernel) ?_
    obtain ⟨r24, σ23, hcr24, hf⟩ := cl2_e hf
    refine v_cV C 8 rfl (ns_kd_lt hk_a0 (by decide)) hk_a0 (by decide) [.int (-2 : Int32)] [] (c_N_refuse G l σ13 a0 (-2 : Int32) hcr24) 79 1 tw_338 tw_335 tw_337 ts_1 tw_1 hd_N_refuse rfl ⟨(Nat.le_of_ble_eq_true rfl), (Nat.le_of_ble_eq_true rfl)⟩ ⟨(Nat.le_of_ble_eq_true rfl), (Nat.le_of_ble_eq_true rfl)⟩ (Nat.le_of_ble_eq_true rfl) rfl 17 rfl (by decide +kernel) [.int r24] rfl ?_
    obtain ⟨rfl, rfl⟩ := ret_e hf
    exact v_iret C hr (by decide +kernel)
theorem hd_N_feed : (⟨"NinthStep", "feed", "(I)I"⟩ : MethodName).cls = "NinthStep" ∧ (⟨"NinthStep", "feed", "(I)I"⟩ : MethodName).cls ≠ "java/lang/invoke/MethodHandle" ∧ (⟨"NinthStep", "feed", "(I)I"⟩ : MethodName).cls ≠ "java/lang/invoke/VarHandle" ∧ (parseMethodDescriptor (⟨"NinthStep", "feed", "(I)I"⟩ : MethodName).desc).map (fun d => d.parameters.length) = some 1 := by decide +kernel
def g_N_wipe (σ : ns_St) (a0 : Nat) : Option (Int32 × ns_St) := grd (ns_kd a0 = 8) <| drf (σ.2.2 a0 4) fun b5 => grd (ns_kd b5 = 5) <| bnd (σ.1 b5 1) fun z6 => drf (σ.2.2 a0 4) fun b7 => grd (ns_kd b7 = 5) <| bnd (ns_pI σ b7 1 (0 : Int32)) fun σ8 => some (z6, σ8)
theorem c_N_wipe (G : ns_G) (l : Launch) (σ : ns_St) (a0 : Nat) {r : Int32} {σ' : ns_St} (hf : g_N_wipe σ a0 = some (r, σ')) : ns_ok G l ⟨"NinthStep", "wipe", "()I"⟩ prog_1_method_16_code 2 (some .int) 0 0 0 0 [.ref (G.1 + a0)] ns_N σ (some (.int r)) ns_N σ' := by
  refine v_open (by decide) (Nat.le_of_ble_eq_true rfl) rfl ?_
  intro p e s m below meth c C hr _
  have C : ns_Cx G p s m _ meth c prog_1_method_16_code "NinthStep" 2 := C
  unfold g_N_wipe at hf
  obtain ⟨hk_a0, hf⟩ := grd_e hf
  refine v_aload_n C 0 0 rfl 1 rfl (by decide +kernel) ?_
  obtain ⟨b5, hb5, hf⟩ := drf_e hf
  obtain ⟨hk_b5, hf⟩ := grd_e hf
  refine v_getR C 8 4 hb5 rfl nin_8 (ns_kd_lt hk_a0 (by decide)) hk_a0 (by decide) (by decide) rfl 31 tw_291 rfl 4 rfl (by decide +kernel) ?_
  refine v_getIN C 5 1 rfl nin_5 (ns_kd_lt hk_b5 (by decide)) hk_b5 (by decide) (by decide) rfl 191 tw_165 rfl 7 rfl (by decide +kernel) ?_
  obtain ⟨z6, hz6, hf⟩ := bnd_e hf
  refine v_nmI hz6 ?_
  refine v_istore_n C 1 [(1, .int z6), (0, .ref (G.1 + a0))] (by decide) rfl 8 rfl (by decide +kernel) ?_
  refine v_aload_n C 0 1 rfl 9 rfl (by decide +kernel) ?_
  obtain ⟨b7, hb7, hf⟩ := drf_e hf
  obtain ⟨hk_b7, hf⟩ := grd_e hf
  refine v_getR C 8 4 hb7 rfl nin_8 (ns_kd_lt hk_a0 (by decide)) hk_a0 (by decide) (by decide) rfl 31 tw_291 rfl 12 rfl (by decide +kernel) ?_
  refine v_iconst C (0) (0) (by decide) 13 rfl (by decide +kernel) ?_
  obtain ⟨σ8, hσ8, hf⟩ := bnd_e hf
  refine v_putIN C 5 1 hσ8 rfl nin_5 ny_5 nty_5 nnm_5 (ns_kd_lt hk_b7 (by decide)) hk_b7 (by decide) (by decide) rfl rfl rfl rfl 191 tw_165 rfl 16 rfl (by decide +kernel) ?_
  refine v_iload_n C 1 0 rfl 17 rfl (by decide +kernel) ?_
  obtain ⟨rfl, rfl⟩ := ret_e hf
  exact v_iret C hr (by decide +kernel)
theorem hd_N_wipe : (⟨"NinthStep", "wipe", "()I"⟩ : MethodName).cls = "NinthStep" ∧ (⟨"NinthStep", "wipe", "()I"⟩ : MethodName).cls ≠ "java/lang/invoke/MethodHandle" ∧ (⟨"NinthStep", "wipe", "()I"⟩ : MethodName).cls ≠ "java/lang/invoke/VarHandle" ∧ (parseMethodDescriptor (⟨"NinthStep", "wipe", "()I"⟩ : MethodName).desc).map (fun d => d.parameters.length) = some 0 := by decide +kernel
def g_Ground_takeFrom (σ : ns_St) (a0 : Nat) (a1 : Nat) : Option (Unit × ns_St) := grd (ns_kd a0 = 1) <| grd (ns_kd a1 = 1) <| bnd (ns_pI σ a0 0 (σ.1 a1 0)) fun σ6 => bnd (ns_pJ σ6 a0 1 (σ6.2.1 a1 1)) fun σ7 => bnd (ns_pJ σ7 a0 2 (σ7.2.1 a1 2)) fun σ8 => bnd (ns_pJ σ8 a0 3 (σ8.2.1 a1 3)) fun σ9 => bnd (ns_pJ σ9 a0 4 (σ9.2.1 a1 4)) fun σ10 => some ((), σ10)
theorem c_Ground_takeFrom (G : ns_G) (l : Launch) (σ : ns_St) (a0 : Nat) (a1 : Nat) {r : Unit} {σ' : ns_St} (hf : g_Ground_takeFrom σ a0 a1 = some (r, σ')) : ns_ok G l ⟨"NinthStep$Ground", "takeFrom", "(LNinthStep$Ground;)V"⟩ prog_3_method_2_code 2 none 0 0 0 0 [.ref (G.1 + a0), .ref (G.1 + a1)] ns_N σ none ns_N σ' := by
  refine v_open (by decide) (Nat.le_of_ble_eq_true rfl) rfl ?_
  intro p e s m below meth c C hr _
  have C : ns_Cx G p s m _ meth c prog_3_method_2_code "NinthStep$Ground" 2 := C
  unfold g_Ground_takeFrom at hf
  obtain ⟨hk_a0, hf⟩ := grd_e hf
  obtain ⟨hk_a1, hf⟩ := grd_e hf
  refine v_aload_n C 0 0 rfl 1 rfl (by decide +kernel) ?_
  refine v_aload_n C 1 1 rfl 2 rfl (by decide +kernel) ?_
  refine v_getI C 1 0 rfl nin_1 (ns_kd_lt hk_a1 (by decide)) hk_a1 (by decide) (by decide) rfl 9 tw_39 rfl 5 rfl (by decide +kernel) ?_
  obtain ⟨σ6, hσ6, hf⟩ := bnd_e hf
  refine v_putI C 1 0 hσ6 rfl nin_1 ny_1 nty_1 nnm_1 (ns_kd_lt hk_a0 (by decide)) hk_a0 (by decide) (by decide) rfl rfl rfl rfl 9 tw_39 rfl 8 rfl (by decide +kernel) ?_
  refine v_aload_n C 0 0 rfl 9 rfl (by decide +kernel) ?_
  refine v_aload_n C 1 1 rfl 10 rfl (by decide +kernel) ?_
  refine v_getJ C 1 1 rfl nin_1 (ns_kd_lt hk_a1 (by decide)) hk_a1 (by decide) (by decide) rfl 15 tw_46 rfl 13 rfl (by decide +kernel) ?_
  obtain ⟨σ7, hσ7, hf⟩ := bnd_e hf
  refine v_putJ C 1 1 hσ7 rfl nin_1 ny_1 nty_1 nnm_1 (ns_kd_lt hk_a0 (by decide)) hk_a0 (by decide) (by decide) rfl rfl rfl rfl 15 tw_46 rfl 16 rfl (by decide +kernel) ?_
  refine v_aload_n C 0 0 rfl 17 rfl (by decide +kernel) ?_
  refine v_aload_n C 1 1 rfl 18 rfl (by decide +kernel) ?_
  refine v_getJ C 1 2 rfl nin_1 (ns_kd_lt hk_a1 (by decide)) hk_a1 (by decide) (by decide) rfl 19 tw_51 rfl 21 rfl (by decide +kernel) ?_
  obtain ⟨σ8, hσ8, hf⟩ := bnd_e hf
  refine v_putJ C 1 2 hσ8 rfl nin_1 ny_1 nty_1 nnm_1 (ns_kd_lt hk_a0 (by decide)) hk_a0 (by decide) (by decide) rfl rfl rfl rfl 19 tw_51 rfl 24 rfl (by decide +kernel) ?_
  refine v_aload_n C 0 0 rfl 25 rfl (by decide +kernel) ?_
  refine v_aload_n C 1 1 rfl 26 rfl (by decide +kernel) ?_
  refine v_getJ C 1 3 rfl nin_1 (ns_kd_lt hk_a1 (by decide)) hk_a1 (by decide) (by decide) rfl 22 tw_54 rfl 29 rfl (by decide +kernel) ?_
  obtain ⟨σ9, hσ9, hf⟩ := bnd_e hf
  refine v_putJ C 1 3 hσ9 rfl nin_1 ny_1 nty_1 nnm_1 (ns_kd_lt hk_a0 (by decide)) hk_a0 (by decide) (by decide) rfl rfl rfl rfl 22 tw_54 rfl 32 rfl (by decide +kernel) ?_
  refine v_aload_n C 0 0 rfl 33 rfl (by decide +kernel) ?_
  refine v_aload_n C 1 1 rfl 34 rfl (by decide +kernel) ?_
  refine v_getJ C 1 4 rfl nin_1 (ns_kd_lt hk_a1 (by decide)) hk_a1 (by decide) (by decide) rfl 25 tw_61 rfl 37 rfl (by decide +kernel) ?_
  obtain ⟨σ10, hσ10, hf⟩ := bnd_e hf
  refine v_putJ C 1 4 hσ10 rfl nin_1 ny_1 nty_1 nnm_1 (ns_kd_lt hk_a0 (by decide)) hk_a0 (by decide) (by decide) rfl rfl rfl rfl 25 tw_61 rfl 40 rfl (by decide +kernel) ?_
  obtain ⟨rfl, rfl⟩ := ret_e hf
  exact v_vret C hr (by decide +kernel)
theorem hd_Ground_takeFrom : (⟨"NinthStep$Ground", "takeFrom", "(LNinthStep$Ground;)V"⟩ : MethodName).cls = "NinthStep$Ground" ∧ (⟨"NinthStep$Ground", "takeFrom", "(LNinthStep$Ground;)V"⟩ : MethodName).cls ≠ "java/lang/invoke/MethodHandle" ∧ (⟨"NinthStep$Ground", "takeFrom", "(LNinthStep$Ground;)V"⟩ : MethodName).cls ≠ "java/lang/invoke/VarHandle" ∧ (parseMethodDescriptor (⟨"NinthStep$Ground", "takeFrom", "(LNinthStep$Ground;)V"⟩ : MethodName).desc).map (fun d => d.parameters.length) = some 1 := by decide +kernel
def g_Mule_takeFrom (σ : ns_St) (a0 : Nat) (a1 : Nat) : Option (Unit × ns_St) := grd (ns_kd a0 = 2) <| grd (ns_kd a1 = 2) <| bnd (ns_pI σ a0 0 (σ.1 a1 0)) fun σ9 => bnd (ns_pI σ9 a0 1 (σ9.1 a1 1)) fun σ10 => bnd (ns_pI σ10 a0 2 (σ10.1 a1 2)) fun σ11 => bnd (ns_pI σ11 a0 3 (σ11.1 a1 3)) fun σ12 => bnd (ns_pI σ12 a0 4 (σ12.1 a1 4)) fun σ13 => bnd (ns_pI σ13 a0 5 (σ13.1 a1 5)) fun σ14 => bnd (ns_pI σ14 a0 6 (σ14.1 a1 6)) fun σ15 => bnd (ns_pI σ15 a0 7 (σ15.1 a1 7)) fun σ16 => some ((), σ16)
theorem c_Mule_takeFrom (G : ns_G) (l : Launch) (σ : ns_St) (a0 : Nat) (a1 : Nat) {r : Unit} {σ' : ns_St} (hf : g_Mule_takeFrom σ a0 a1 = some (r, σ')) : ns_ok G l ⟨"NinthStep$Mule", "takeFrom", "(LNinthStep$Mule;)V"⟩ prog_4_method_3_code 2 none 0 0 0 0 [.ref (G.1 + a0), .ref (G.1 + a1)] ns_N σ none ns_N σ' := by
  refine v_open (by decide) (Nat.le_of_ble_eq_true rfl) rfl ?_
  intro p e s m below meth c C hr _
  have C : ns_Cx G p s m _ meth c prog_4_method_3_code "NinthStep$Mule" 2 := C
  unfold g_Mule_takeFrom at hf
  obtain ⟨hk_a0, hf⟩ := grd_e hf
  obtain ⟨hk_a1, hf⟩ := grd_e hf
  refine v_aload_n C 0 0 rfl 1 rfl (by decide +kernel) ?_
  refine v_aload_n C 1 1 rfl 2 rfl (by decide +kernel) ?_
  refine v_getI C 2 0 rfl nin_2 (ns_kd_lt hk_a1 (by decide)) hk_a1 (by decide) (by decide) rfl 9 tw_82 rfl 5 rfl (by decide +kernel) ?_
  obtain ⟨σ9, hσ9, hf⟩ := bnd_e hf
  refine v_putI C 2 0 hσ9 rfl nin_2 ny_2 nty_2 nnm_2 (ns_kd_lt hk_a0 (by decide)) hk_a0 (by decide) (by decide) rfl rfl rfl rfl 9 tw_82 rfl 8 rfl (by decide +kernel) ?_
  refine v_aload_n C 0 0 rfl 9 rfl (by decide +kernel) ?_
  refine v_aload_n C 1 1 rfl 10 rfl (by decide +kernel) ?_
  refine v_getI C 2 1 rfl nin_2 (ns_kd_lt hk_a1 (by decide)) hk_a1 (by decide) (by decide) rfl 15 tw_84 rfl 13 rfl (by decide +kernel) ?_
  obtain ⟨σ10, hσ10, hf⟩ := bnd_e hf
  refine v_putI C 2 1 hσ10 rfl nin_2 ny_2 nty_2 nnm_2 (ns_kd_lt hk_a0 (by decide)) hk_a0 (by decide) (by decide) rfl rfl rfl rfl 15 tw_84 rfl 16 rfl (by decide +kernel) ?_
  refine v_aload_n C 0 0 rfl 17 rfl (by decide +kernel) ?_
  refine v_aload_n C 1 1 rfl 18 rfl (by decide +kernel) ?_
  refine v_getI C 2 2 rfl nin_2 (ns_kd_lt hk_a1 (by decide)) hk_a1 (by decide) (by decide) rfl 21 tw_88 rfl 21 rfl (by decide +kernel) ?_
  obtain ⟨σ11, hσ11, hf⟩ := bnd_e hf
  refine v_putI C 2 2 hσ11 rfl nin_2 ny_2 nty_2 nnm_2 (ns_kd_lt hk_a0 (by decide)) hk_a0 (by decide) (by decide) rfl rfl rfl rfl 21 tw_88 rfl 24 rfl (by decide +kernel) ?_
  refine v_aload_n C 0 0 rfl 25 rfl (by decide +kernel) ?_
  refine v_aload_n C 1 1 rfl 26 rfl (by decide +kernel) ?_
  refine v_getI C 2 3 rfl nin_2 (ns_kd_lt hk_a1 (by decide)) hk_a1 (by decide) (by decide) rfl 24 tw_94 rfl 29 rfl (by decide +kernel) ?_
  obtain ⟨σ12, hσ12, hf⟩ := bnd_e hf
  refine v_putI C 2 3 hσ12 rfl nin_2 ny_2 nty_2 nnm_2 (ns_kd_lt hk_a0 (by decide)) hk_a0 (by decide) (by decide) rfl rfl rfl rfl 24 tw_94 rfl 32 rfl (by decide +kernel) ?_
  refine v_aload_n C 0 0 rfl 33 rfl (by decide +kernel) ?_
  refine v_aload_n C 1 1 rfl 34 rfl (by decide +kernel) ?_
  refine v_getI C 2 4 rfl nin_2 (ns_kd_lt hk_a1 (by decide)) hk_a1 (by decide) (by decide) rfl 27 tw_98 rfl 37 rfl (by decide +kernel) ?_
  obtain ⟨σ13, hσ13, hf⟩ := bnd_e hf
  refine v_putI C 2 4 hσ13 rfl nin_2 ny_2 nty_2 nnm_2 (ns_kd_lt hk_a0 (by decide)) hk_a0 (by decide) (by decide) rfl rfl rfl rfl 27 tw_98 rfl 40 rfl (by decide +kernel) ?_
  refine v_aload_n C 0 0 rfl 41 rfl (by decide +kernel) ?_
  refine v_aload_n C 1 1 rfl 42 rfl (by decide +kernel) ?_
  refine v_getI C 2 5 rfl nin_2 (ns_kd_lt hk_a1 (by decide)) hk_a1 (by decide) (by decide) rfl 18 tw_101 rfl 45 rfl (by decide +kernel) ?_
  obtain ⟨σ14, hσ14, hf⟩ := bnd_e hf
  refine v_putI C 2 5 hσ14 rfl nin_2 ny_2 nty_2 nnm_2 (ns_kd_lt hk_a0 (by decide)) hk_a0 (by decide) (by decide) rfl rfl rfl rfl 18 tw_101 rfl 48 rfl (by decide +kernel) ?_
  refine v_aload_n C 0 0 rfl 49 rfl (by decide +kernel) ?_
  refine v_aload_n C 1 1 rfl 50 rfl (by decide +kernel) ?_
  refine v_getI C 2 6 rfl nin_2 (ns_kd_lt hk_a1 (by decide)) hk_a1 (by decide) (by decide) rfl 34 tw_103 rfl 53 rfl (by decide +kernel) ?_
  obtain ⟨σ15, hσ15, hf⟩ := bnd_e hf
  refine v_putI C 2 6 hσ15 rfl nin_2 ny_2 nty_2 nnm_2 (ns_kd_lt hk_a0 (by decide)) hk_a0 (by decide) (by decide) rfl rfl rfl rfl 34 tw_103 rfl 56 rfl (by decide +kernel) ?_
  refine v_aload_n C 0 0 rfl 57 rfl (by decide +kernel) ?_
  refine v_aload_n C 1 1 rfl 58 rfl (by decide +kernel) ?_
  refine v_getI C 2 7 rfl nin_2 (ns_kd_lt hk_a1 (by decide)) hk_a1 (by decide) (by decide) rfl 37 tw_106 rfl 61 rfl (by decide +kernel) ?_
  obtain ⟨σ16, hσ16, hf⟩ := bnd_e hf
  refine v_putI C 2 7 hσ16 rfl nin_2 ny_2 nty_2 nnm_2 (ns_kd_lt hk_a0 (by decide)) hk_a0 (by decide) (by decide) rfl rfl rfl rfl 37 tw_106 rfl 64 rfl (by decide +kernel) ?_
  obtain ⟨rfl, rfl⟩ := ret_e hf
  exact v_vret C hr (by decide +kernel)
theorem hd_Mule_takeFrom : (⟨"NinthStep$Mule", "takeFrom", "(LNinthStep$Mule;)V"⟩ : MethodName).cls = "NinthStep$Mule" ∧ (⟨"NinthStep$Mule", "takeFrom", "(LNinthStep$Mule;)V"⟩ : MethodName).cls ≠ "java/lang/invoke/MethodHandle" ∧ (⟨"NinthStep$Mule", "takeFrom", "(LNinthStep$Mule;)V"⟩ : MethodName).cls ≠ "java/lang/invoke/VarHandle" ∧ (parseMethodDescriptor (⟨"NinthStep$Mule", "takeFrom", "(LNinthStep$Mule;)V"⟩ : MethodName).desc).map (fun d => d.parameters.length) = some 1 := by decide +kernel
def g_World_takeFrom_13  : Nat → ns_St → Nat → Nat → Int32 → Option (Unit × ns_St)
  | 0, _, _, _, _ => none
  | f + 1, σ, a0, a1, x2 => ite2 ((6 : Int32) ≤ x2) (bnd (ns_pI σ a0 2 (σ.1 a1 2)) fun σ20 => bnd (ns_pI σ20 a0 3 (σ20.1 a1 3)) fun σ21 => bnd (ns_pI σ21 a0 4 (σ21.1 a1 4)) fun σ22 => bnd (ns_pI σ22 a0 5 (σ22.1 a1 5)) fun σ23 => some ((), σ23)) (drf (σ.2.2 a0 1) fun b24 => grd (ns_kd b24 = 12) <| grd (ns_in x2 (ns_ln b24)) <| drf (σ.2.2 b24 (ns_ix x2)) fun b26 => grd (ns_kd b26 = 2) <| drf (σ.2.2 a1 1) fun b27 => grd (ns_kd b27 = 12) <| grd (ns_in x2 (ns_ln b27)) <| drf (σ.2.2 b27 (ns_ix x2)) fun b29 => grd (ns_kd b29 = 2) <| cl2 (g_Mule_takeFrom σ b26 b29) fun r31 σ30 => bnd (x2 + 1) fun z32 => (g_World_takeFrom_13 f) σ30 a0 a1 z32)
def g_World_takeFrom (σ : ns_St) (a0 : Nat) (a1 : Nat) : Option (Unit × ns_St) := grd (ns_kd a0 = 7) <| grd (ns_kd a1 = 7) <| drf (σ.2.2 a0 0) fun b33 => grd (ns_kd b33 = 1) <| drf (σ.2.2 a1 0) fun b34 => grd (ns_kd b34 = 1) <| cl2 (g_Ground_takeFrom σ b33 b34) fun r36 σ35 => g_World_takeFrom_13 ns_F σ35 a0 a1 (0 : Int32)
theorem t_World_takeFrom_13 (G : ns_G) (l : Launch) {p : Program} {e : Env} {s : State} {m : MethodId} {args : Array Value} {below : List Frame} {meth : Method} {c : Code} (C : ns_Cx G p s m args meth c prog_9_method_2_code "NinthStep$World" 3) (hr : meth.sig.returnType = none) {r : Unit} {σ' : ns_St}  : ∀ (f : Nat) (σ : ns_St) (a0 : Nat) (a1 : Nat) (x2 : Int32) (hk_a0 : ns_kd a0 = 7) (hk_a1 : ns_kd a1 = 7), g_World_takeFrom_13 f σ a0 a1 x2 = some (r, σ') → VV G p l e { frames := 1, cells := 0, slots := 0, locals := 21 } s m args below meth c 3 0 0 (MQ below (ns_Qc G none ns_N σ') args s 0 0 (ns_A G)) ns_N σ 13 [(0, .ref (G.1 + a0)), (1, .ref (G.1 + a1)), (2, .int x2)] [] := by
  intro f
  induction f with
  | zero =>
    intro σ a0 a1 x2 hk_a0 hk_a1 hf
    cases hf
  | succ f ih =>
    intro σ a0 a1 x2 hk_a0 hk_a1 hf
    rw [g_World_takeFrom_13] at hf
    refine v_iload_n C 2 2 rfl 14 rfl (by decide +kernel) ?_
    refine v_bipush C (6) (6) (by decide) 16 rfl (by decide +kernel) ?_
    refine v_icmp_ge C 40 19 rfl (by decide +kernel) (fun h19 => ?_) (fun h19 => ?_)
    · have hf := ite2_t hf h19
      refine v_aload_n C 0 0 rfl 41 rfl (by decide +kernel) ?_
      refine v_aload_n C 1 1 rfl 42 rfl (by decide +kernel) ?_
      refine v_getI C 7 2 rfl nin_7 (ns_kd_lt hk_a1 (by decide)) hk_a1 (by decide) (by decide) rfl 36 tw_133 rfl 45 rfl (by decide +kernel) ?_
      obtain ⟨σ20, hσ20, hf⟩ := bnd_e hf
      refine v_putI C 7 2 hσ20 rfl nin_7 ny_7 nty_7 nnm_7 (ns_kd_lt hk_a0 (by decide)) hk_a0 (by decide) (by decide) rfl rfl rfl rfl 36 tw_133 rfl 48 rfl (by decide +kernel) ?_
      refine v_aload_n C 0 0 rfl 49 rfl (by decide +kernel) ?_
      refine v_aload_n C 1 1 rfl 50 rfl (by decide +kernel) ?_
      refine v_getI C 7 3 rfl nin_7 (ns_kd_lt hk_a1 (by decide)) hk_a1 (by decide) (by decide) rfl 39 tw_136 rfl 53 rfl (by decide +kernel) ?_
      obtain ⟨σ21, hσ21, hf⟩ := bnd_e hf
      refine v_putI C 7 3 hσ21 rfl nin_7 ny_7 nty_7 nnm_7 (ns_kd_lt hk_a0 (by decide)) hk_a0 (by decide) (by decide) rfl rfl rfl rfl 39 tw_136 rfl 56 rfl (by decide +kernel) ?_
      refine v_aload_n C 0 0 rfl 57 rfl (by decide +kernel) ?_
      refine v_aload_n C 1 1 rfl 58 rfl (by decide +kernel) ?_
      refine v_getI C 7 4 rfl nin_7 (ns_kd_lt hk_a1 (by decide)) hk_a1 (by decide) (by decide) rfl 42 tw_138 rfl 61 rfl (by decide +kernel) ?_
      obtain ⟨σ22, hσ22, hf⟩ := bnd_e hf
      refine v_putI C 7 4 hσ22 rfl nin_7 ny_7 nty_7 nnm_7 (ns_kd_lt hk_a0 (by decide)) hk_a0 (by decide) (by decide) rfl rfl rfl rfl 42 tw_138 rfl 64 rfl (by decide +kernel) ?_
      refine v_aload_n C 0 0 rfl 65 rfl (by decide +kernel) ?_
      refine v_aload_n C 1 1 rfl 66 rfl (by decide +kernel) ?_
      refine v_getI C 7 5 rfl nin_7 (ns_kd_lt hk_a1 (by decide)) hk_a1 (by decide) (by decide) rfl 24 tw_140 rfl 69 rfl (by decide +kernel) ?_
      obtain ⟨σ23, hσ23, hf⟩ := bnd_e hf
      refine v_putI C 7 5 hσ23 rfl nin_7 ny_7 nty_7 nnm_7 (ns_kd_lt hk_a0 (by decide)) hk_a0 (by decide) (by decide) rfl rfl rfl rfl 24 tw_140 rfl 72 rfl (by decide +kernel) ?_
      obtain ⟨rfl, rfl⟩ := ret_e hf
      exact v_vret C hr (by decide +kernel)
    · have hf := ite2_f hf h19
      refine v_aload_n C 0 0 rfl 20 rfl (by decide +kernel) ?_
      obtain ⟨b24, hb24, hf⟩ := drf_e hf
      obtain ⟨hk_b24, hf⟩ := grd_e hf
      refine v_getR C 7 1 hb24 rfl nin_7 (ns_kd_lt hk_a0 (by decide)) hk_a0 (by decide) (by decide) rfl 20 tw_129 rfl 23 rfl (by decide +kernel) ?_
      refine v_iload_n C 2 2 rfl 24 rfl (by decide +kernel) ?_
      obtain ⟨hi25, hf⟩ := grd_e hf
      obtain ⟨b26, hb26, hf⟩ := drf_e hf
      obtain ⟨hk_b26, hf⟩ := grd_e hf
      refine v_aald C 12 (by decide) (ns_kd_lt hk_b24 (by decide)) hk_b24 hi25 hb26 25 rfl (by decide +kernel) ?_
      refine v_aload_n C 1 1 rfl 26 rfl (by decide +kernel) ?_
      obtain ⟨b27, hb27, hf⟩ := drf_e hf
      obtain ⟨hk_b27, hf⟩ := grd_e hf
      refine v_getR C 7 1 hb27 rfl nin_7 (ns_kd_lt hk_a1 (by decide)) hk_a1 (by decide) (by decide) rfl 20 tw_129 rfl 29 rfl (by decide +kernel) ?_
      refine v_iload_n C 2 2 rfl 30 rfl (by decide +kernel) ?_
      obtain ⟨hi28, hf⟩ := grd_e hf
      obtain ⟨b29, hb29, hf⟩ := drf_e hf
      obtain ⟨hk_b29, hf⟩ := grd_e hf
      refine v_aald C 12 (by decide) (ns_kd_lt hk_b27 (by decide)) hk_b27 hi28 hb29 31 rfl (by decide +kernel) ?_
      obtain ⟨r31, σ30, hcr31, hf⟩ := cl2_e hf
      refine v_cVN C 2 rfl (ns_kd_lt hk_b26 (by decide)) hk_b26 (by decide) [.ref (G.1 + b29)] [] (c_Mule_takeFrom G l σ b26 b29 hcr31) 33 1 tw_522 tw_519 tw_521 ts_19 tw_4 hd_Mule_takeFrom rfl ⟨(Nat.le_of_ble_eq_true rfl), (Nat.le_of_ble_eq_true rfl)⟩ ⟨(Nat.le_of_ble_eq_true rfl), (Nat.le_of_ble_eq_true rfl)⟩ (Nat.le_of_ble_eq_true rfl) rfl 34 rfl (by decide +kernel) [] rfl ?_
      obtain ⟨z32, hz32, hf⟩ := bnd_e hf
      refine v_iinc C 2 (1) 2 z32 rfl (by rw [hz32]; rfl) [(2, .int z32), (0, .ref (G.1 + a0)), (1, .ref (G.1 + a1))] (by decide) rfl 37 rfl (by decide +kernel) ?_
      refine v_goto C 13 (by decide +kernel) ?_
      refine v_sub [1, 2, 0] rfl ?_
      exact ih σ30 a0 a1 z32 hk_a0 hk_a1 hf
theorem c_World_takeFrom (G : ns_G) (l : Launch) (σ : ns_St) (a0 : Nat) (a1 : Nat) {r : Unit} {σ' : ns_St} (hf : g_World_takeFrom σ a0 a1 = some (r, σ')) : ns_ok G l ⟨"NinthStep$World", "takeFrom", "(LNinthStep$World;)V"⟩ prog_9_method_2_code 3 none 1 21 0 0 [.ref (G.1 + a0), .ref (G.1 + a1)] ns_N σ none ns_N σ' := by
  refine v_open (by decide) (Nat.le_of_ble_eq_true rfl) rfl ?_
  intro p e s m below meth c C hr _
  have C : ns_Cx G p s m _ meth c prog_9_method_2_code "NinthStep$World" 3 := C
  unfold g_World_takeFrom at hf
  obtain ⟨hk_a0, hf⟩ := grd_e hf
  obtain ⟨hk_a1, hf⟩ := grd_e hf
  refine v_aload_n C 0 0 rfl 1 rfl (by decide +kernel) ?_
  obtain ⟨b33, hb33, hf⟩ := drf_e hf
  obtain ⟨hk_b33, hf⟩ := grd_e hf
  refine v_getR C 7 0 hb33 rfl nin_7 (ns_kd_lt hk_a0 (by decide)) hk_a0 (by decide) (by decide) rfl 12 tw_125 rfl 4 rfl (by decide +kernel) ?_
  refine v_aload_n C 1 1 rfl 5 rfl (by decide +kernel) ?_
  obtain ⟨b34, hb34, hf⟩ := drf_e hf
  obtain ⟨hk_b34, hf⟩ := grd_e hf
  refine v_getR C 7 0 hb34 rfl nin_7 (ns_kd_lt hk_a1 (by decide)) hk_a1 (by decide) (by decide) rfl 12 tw_125 rfl 8 rfl (by decide +kernel) ?_
  obtain ⟨r36, σ35, hcr36, hf⟩ := cl2_e hf
  refine v_cVN C 1 rfl (ns_kd_lt hk_b33 (by decide)) hk_b33 (by decide) [.ref (G.1 + b34)] [] (c_Ground_takeFrom G l σ b33 b34 hcr36) 29 1 tw_518 tw_515 tw_517 ts_18 tw_3 hd_Ground_takeFrom rfl ⟨(Nat.le_of_ble_eq_true rfl), (Nat.le_of_ble_eq_true rfl)⟩ ⟨(Nat.le_of_ble_eq_true rfl), (Nat.le_of_ble_eq_true rfl)⟩ (Nat.le_of_ble_eq_true rfl) rfl 11 rfl (by decide +kernel) [] rfl ?_
  refine v_iconst C (0) (0) (by decide) 12 rfl (by decide +kernel) ?_
  refine v_istore_n C 2 [(2, .int (0 : Int32)), (0, .ref (G.1 + a0)), (1, .ref (G.1 + a1))] (by decide) rfl 13 rfl (by decide +kernel) ?_
  refine v_sub [1, 2, 0] rfl ?_
  exact t_World_takeFrom_13 G l C hr  ns_F σ35 a0 a1 (0 : Int32) hk_a0 hk_a1 hf
theorem hd_World_takeFrom : (⟨"NinthStep$World", "takeFrom", "(LNinthStep$World;)V"⟩ : MethodName).cls = "NinthStep$World" ∧ (⟨"NinthStep$World", "takeFrom", "(LNinthStep$World;)V"⟩ : MethodName).cls ≠ "java/lang/invoke/MethodHandle" ∧ (⟨"NinthStep$World", "takeFrom", "(LNinthStep$World;)V"⟩ : MethodName).cls ≠ "java/lang/invoke/VarHandle" ∧ (parseMethodDescriptor (⟨"NinthStep$World", "takeFrom", "(LNinthStep$World;)V"⟩ : MethodName).desc).map (fun d => d.parameters.length) = some 1 := by decide +kernel
def g_Tape_sortOf_28  (σ : ns_St) (x0 : Int32) : Option (Int32 × ns_St) := ite2 (x0 = (59 : Int32)) (some ((3 : Int32), σ)) (some ((4 : Int32), σ))
def g_Tape_sortOf_14  (σ : ns_St) (x0 : Int32) : Option (Int32 × ns_St) := ite2 (x0 < (48 : Int32)) (g_Tape_sortOf_28 σ x0) (ite2 ((57 : Int32) < x0) (g_Tape_sortOf_28 σ x0) (some ((2 : Int32), σ)))
def g_Tape_sortOf (σ : ns_St) (x0 : Int32) : Option (Int32 × ns_St) := ite2 (x0 < (97 : Int32)) (g_Tape_sortOf_14 σ x0) (ite2 ((122 : Int32) < x0) (g_Tape_sortOf_14 σ x0) (some ((1 : Int32), σ)))
theorem t_Tape_sortOf_28 (G : ns_G) (l : Launch) {p : Program} {e : Env} {s : State} {m : MethodId} {args : Array Value} {below : List Frame} {meth : Method} {c : Code} (C : ns_Cx G p s m args meth c prog_7_method_12_code "NinthStep$Tape" 1) (hr : meth.sig.returnType = (some .int)) {r : Int32} {σ' : ns_St}  (σ : ns_St) (x0 : Int32)  (hf : g_Tape_sortOf_28 σ x0 = some (r, σ')) : VV G p l e { frames := 0, cells := 0, slots := 0, locals := 0 } s m args below meth c 1 0 0 (MQ below (ns_Qc G (some (.int r)) ns_N σ') args s 0 0 (ns_A G)) ns_N σ 28 [(0, .int x0)] [] := by
  unfold g_Tape_sortOf_28 at hf
  refine v_iload_n C 0 0 rfl 29 rfl (by decide +kernel) ?_
  refine v_bipush C (59) (59) (by decide) 31 rfl (by decide +kernel) ?_
  refine v_icmp_ne C 38 34 rfl (by decide +kernel) (fun h6 => ?_) (fun h6 => ?_)
  · have hf := ite2_f hf h6
    refine v_iconst C (4) (4) (by decide) 39 rfl (by decide +kernel) ?_
    obtain ⟨rfl, rfl⟩ := ret_e hf
    exact v_iret C hr (by decide +kernel)
  · have hf := ite2_t hf h6
    refine v_iconst C (3) (3) (by decide) 35 rfl (by decide +kernel) ?_
    refine v_goto C 39 (by decide +kernel) ?_
    obtain ⟨rfl, rfl⟩ := ret_e hf
    exact v_iret C hr (by decide +kernel)
theorem t_Tape_sortOf_14 (G : ns_G) (l : Launch) {p : Program} {e : Env} {s : State} {m : MethodId} {args : Array Value} {below : List Frame} {meth : Method} {c : Code} (C : ns_Cx G p s m args meth c prog_7_method_12_code "NinthStep$Tape" 1) (hr : meth.sig.returnType = (some .int)) {r : Int32} {σ' : ns_St}  (σ : ns_St) (x0 : Int32)  (hf : g_Tape_sortOf_14 σ x0 = some (r, σ')) : VV G p l e { frames := 0, cells := 0, slots := 0, locals := 0 } s m args below meth c 1 0 0 (MQ below (ns_Qc G (some (.int r)) ns_N σ') args s 0 0 (ns_A G)) ns_N σ 14 [(0, .int x0)] [] := by
  unfold g_Tape_sortOf_14 at hf
  refine v_iload_n C 0 0 rfl 15 rfl (by decide +kernel) ?_
  refine v_bipush C (48) (48) (by decide) 17 rfl (by decide +kernel) ?_
  refine v_icmp_lt C 28 20 rfl (by decide +kernel) (fun h7 => ?_) (fun h7 => ?_)
  · have hf := ite2_t hf h7
    exact t_Tape_sortOf_28 G l C hr  σ x0 hf
  · have hf := ite2_f hf h7
    refine v_iload_n C 0 0 rfl 21 rfl (by decide +kernel) ?_
    refine v_bipush C (57) (57) (by decide) 23 rfl (by decide +kernel) ?_
    refine v_icmp_gt C 28 26 rfl (by decide +kernel) (fun h8 => ?_) (fun h8 => ?_)
    · have hf := ite2_t hf h8
      exact t_Tape_sortOf_28 G l C hr  σ x0 hf
    · have hf := ite2_f hf h8
      refine v_iconst C (2) (2) (by decide) 27 rfl (by decide +kernel) ?_
      obtain ⟨rfl, rfl⟩ := ret_e hf
      exact v_iret C hr (by decide +kernel)
theorem c_Tape_sortOf (G : ns_G) (l : Launch) (σ : ns_St) (x0 : Int32) {r : Int32} {σ' : ns_St} (hf : g_Tape_sortOf σ x0 = some (r, σ')) : ns_ok G l ⟨"NinthStep$Tape", "sortOf", "(I)I"⟩ prog_7_method_12_code 1 (some .int) 0 0 0 0 [.int x0] ns_N σ (some (.int r)) ns_N σ' := by
  refine v_open (by decide) (Nat.le_of_ble_eq_true rfl) rfl ?_
  intro p e s m below meth c C hr _
  have C : ns_Cx G p s m _ meth c prog_7_method_12_code "NinthStep$Tape" 1 := C
  unfold g_Tape_sortOf at hf
  refine v_iload_n C 0 0 rfl 1 rfl (by decide +kernel) ?_
  refine v_bipush C (97) (97) (by decide) 3 rfl (by decide +kernel) ?_
  refine v_icmp_lt C 14 6 rfl (by decide +kernel) (fun h9 => ?_) (fun h9 => ?_)
  · have hf := ite2_t hf h9
    exact t_Tape_sortOf_14 G l C hr  σ x0 hf
  · have hf := ite2_f hf h9
    refine v_iload_n C 0 0 rfl 7 rfl (by decide +kernel) ?_
    refine v_bipush C (122) (122) (by decide) 9 rfl (by decide +kernel) ?_
    refine v_icmp_gt C 14 12 rfl (by decide +kernel) (fun h10 => ?_) (fun h10 => ?_)
    · have hf := ite2_t hf h10
      exact t_Tape_sortOf_14 G l C hr  σ x0 hf
    · have hf := ite2_f hf h10
      refine v_iconst C (1) (1) (by decide) 13 rfl (by decide +kernel) ?_
      obtain ⟨rfl, rfl⟩ := ret_e hf
      exact v_iret C hr (by decide +kernel)
theorem hd_Tape_sortOf : (⟨"NinthStep$Tape", "sortOf", "(I)I"⟩ : MethodName).cls ≠ "java/lang/invoke/MethodHandle" ∧ (⟨"NinthStep$Tape", "sortOf", "(I)I"⟩ : MethodName).cls ≠ "java/lang/invoke/VarHandle" ∧ (parseMethodDescriptor (⟨"NinthStep$Tape", "sortOf", "(I)I"⟩ : MethodName).desc).map (fun d => d.parameters.length) = some 1 := by decide +kernel
def g_Tape_nextToken_101  : Nat → ns_St → Nat → Option (Unit × ns_St)
  | 0, _, _ => none
  | f + 1, σ, a0 => ite2 ((σ.1 a0 1) ≤ (σ.1 a0 5)) (some ((), σ)) (drf (σ.2.2 a0 0) fun b26 => grd (ns_kd b26 = 10) <| grd (ns_in (σ.1 a0 5) (ns_ln b26)) <| cl2 (g_Tape_sortOf σ (σ.1 b26 (ns_ix (σ.1 a0 5)))) fun r29 σ28 => ite2 (r29 = (σ28.1 a0 3)) (bnd (ns_pI σ28 a0 5 ((σ28.1 a0 5) + (1 : Int32))) fun σ31 => (g_Tape_nextToken_101 f) σ31 a0) (some ((), σ28)))
def g_Tape_nextToken_74  (σ : ns_St) (s0 : Nat) (s1 : Int32) (a0 : Nat) : Option (Unit × ns_St) := bnd (ns_pI σ s0 3 s1) fun σ32 => bnd (ns_pI σ32 a0 5 (σ32.1 a0 4)) fun σ33 => ite2 ((σ33.1 a0 3) = (1 : Int32)) (g_Tape_nextToken_101 ns_F σ33 a0) (ite2 ((σ33.1 a0 3) = (2 : Int32)) (g_Tape_nextToken_101 ns_F σ33 a0) (ite2 ((σ33.1 a0 3) = 0) (some ((), σ33)) (bnd (ns_pI σ33 a0 5 ((σ33.1 a0 5) + (1 : Int32))) fun σ37 => some ((), σ37))))
def g_Tape_nextToken_46  (σ : ns_St) (a0 : Nat) : Option (Unit × ns_St) := ite2 ((σ.1 a0 1) ≤ (σ.1 a0 4)) (g_Tape_nextToken_74 σ a0 (0 : Int32) a0) (drf (σ.2.2 a0 0) fun b39 => grd (ns_kd b39 = 10) <| grd (ns_in (σ.1 a0 4) (ns_ln b39)) <| cl2 (g_Tape_sortOf σ (σ.1 b39 (ns_ix (σ.1 a0 4)))) fun r42 σ41 => g_Tape_nextToken_74 σ41 a0 r42 a0)
def g_Tape_nextToken_8  : Nat → ns_St → Nat → Option (Unit × ns_St)
  | 0, _, _ => none
  | f + 1, σ, a0 => ite2 ((σ.1 a0 1) ≤ (σ.1 a0 4)) (g_Tape_nextToken_46 σ a0) (drf (σ.2.2 a0 0) fun b44 => grd (ns_kd b44 = 10) <| grd (ns_in (σ.1 a0 4) (ns_ln b44)) <| ite2 ((σ.1 b44 (ns_ix (σ.1 a0 4))) = (32 : Int32)) (bnd (ns_pI σ a0 4 ((σ.1 a0 4) + (1 : Int32))) fun σ47 => (g_Tape_nextToken_8 f) σ47 a0) (g_Tape_nextToken_46 σ a0))
def g_Tape_nextToken (σ : ns_St) (a0 : Nat) : Option (Unit × ns_St) := grd (ns_kd a0 = 5) <| bnd (ns_pI σ a0 4 (σ.1 a0 5)) fun σ48 => g_Tape_nextToken_8 ns_F σ48 a0
theorem t_Tape_nextToken_101 (G : ns_G) (l : Launch) {p : Program} {e : Env} {s : State} {m : MethodId} {args : Array Value} {below : List Frame} {meth : Method} {c : Code} (C : ns_Cx G p s m args meth c prog_7_method_11_code "NinthStep$Tape" 1) (hr : meth.sig.returnType = none) {r : Unit} {σ' : ns_St}  : ∀ (f : Nat) (σ : ns_St) (a0 : Nat) (hk_a0 : ns_kd a0 = 5), g_Tape_nextToken_101 f σ a0 = some (r, σ') → VV G p l e { frames := 1, cells := 0, slots := 0, locals := 20 } s m args below meth c 1 0 0 (MQ below (ns_Qc G none ns_N σ') args s 0 0 (ns_A G)) ns_N σ 101 [(0, .ref (G.1 + a0))] [] := by
  intro f
  induction f with
  | zero =>
    intro σ a0 hk_a0 hf
    cases hf
  | succ f ih =>
    intro σ a0 hk_a0 hf
    rw [g_Tape_nextToken_101] at hf
    refine v_aload_n C 0 0 rfl 102 rfl (by decide +kernel) ?_
    refine v_getI C 5 5 rfl nin_5 (ns_kd_lt hk_a0 (by decide)) hk_a0 (by decide) (by decide) rfl 22 tw_170 rfl 105 rfl (by decide +kernel) ?_
    refine v_aload_n C 0 0 rfl 106 rfl (by decide +kernel) ?_
    refine v_getI C 5 1 rfl nin_5 (ns_kd_lt hk_a0 (by decide)) hk_a0 (by decide) (by decide) rfl 15 tw_164 rfl 109 rfl (by decide +kernel) ?_
    refine v_icmp_ge C 161 112 rfl (by decide +kernel) (fun h25 => ?_) (fun h25 => ?_)
    · have hf := ite2_t hf h25
      obtain ⟨rfl, rfl⟩ := ret_e hf
      exact v_vret C hr (by decide +kernel)
    · have hf := ite2_f hf h25
      refine v_aload_n C 0 0 rfl 113 rfl (by decide +kernel) ?_
      obtain ⟨b26, hb26, hf⟩ := drf_e hf
      obtain ⟨hk_b26, hf⟩ := grd_e hf
      refine v_getR C 5 0 hb26 rfl nin_5 (ns_kd_lt hk_a0 (by decide)) hk_a0 (by decide) (by decide) rfl 9 tw_163 rfl 116 rfl (by decide +kernel) ?_
      refine v_aload_n C 0 0 rfl 117 rfl (by decide +kernel) ?_
      refine v_getI C 5 5 rfl nin_5 (ns_kd_lt hk_a0 (by decide)) hk_a0 (by decide) (by decide) rfl 22 tw_170 rfl 120 rfl (by decide +kernel) ?_
      obtain ⟨hi27, hf⟩ := grd_e hf
      refine v_iald C (ns_kd_lt hk_b26 (by decide)) hk_b26 hi27 121 rfl (by decide +kernel) ?_
      obtain ⟨r29, σ28, hcr29, hf⟩ := cl2_e hf
      refine v_cS C [.int (σ.1 b26 (ns_ix (σ.1 a0 5)))] [] (c_Tape_sortOf G l σ (σ.1 b26 (ns_ix (σ.1 a0 5))) hcr29) 132 1 tw_533 tw_531 tw_532 tw_5 hd_Tape_sortOf rfl ⟨(Nat.le_of_ble_eq_true rfl), (Nat.le_of_ble_eq_true rfl)⟩ ⟨(Nat.le_of_ble_eq_true rfl), (Nat.le_of_ble_eq_true rfl)⟩ (Nat.le_of_ble_eq_true rfl) rfl 124 rfl (by decide +kernel) [.int r29] rfl ?_
      refine v_aload_n C 0 0 rfl 125 rfl (by decide +kernel) ?_
      refine v_getI C 5 3 rfl nin_5 (ns_kd_lt hk_a0 (by decide)) hk_a0 (by decide) (by decide) rfl 32 tw_168 rfl 128 rfl (by decide +kernel) ?_
      refine v_icmp_ne C 161 131 rfl (by decide +kernel) (fun h30 => ?_) (fun h30 => ?_)
      · have hf := ite2_f hf h30
        obtain ⟨rfl, rfl⟩ := ret_e hf
        exact v_vret C hr (by decide +kernel)
      · have hf := ite2_t hf h30
        refine v_aload_n C 0 0 rfl 132 rfl (by decide +kernel) ?_
        refine v_dup C rfl 133 rfl (by decide +kernel) ?_
        refine v_getI C 5 5 rfl nin_5 (ns_kd_lt hk_a0 (by decide)) hk_a0 (by decide) (by decide) rfl 22 tw_170 rfl 136 rfl (by decide +kernel) ?_
        refine v_iconst C (1) (1) (by decide) 137 rfl (by decide +kernel) ?_
        refine v_iadd C 138 rfl (by decide +kernel) ?_
        obtain ⟨σ31, hσ31, hf⟩ := bnd_e hf
        refine v_putI C 5 5 hσ31 rfl nin_5 ny_5 nty_5 nnm_5 (ns_kd_lt hk_a0 (by decide)) hk_a0 (by decide) (by decide) rfl rfl rfl rfl 22 tw_170 rfl 141 rfl (by decide +kernel) ?_
        refine v_goto C 101 (by decide +kernel) ?_
        exact ih σ31 a0 hk_a0 hf
theorem t_Tape_nextToken_74 (G : ns_G) (l : Launch) {p : Program} {e : Env} {s : State} {m : MethodId} {args : Array Value} {below : List Frame} {meth : Method} {c : Code} (C : ns_Cx G p s m args meth c prog_7_method_11_code "NinthStep$Tape" 1) (hr : meth.sig.returnType = none) {r : Unit} {σ' : ns_St}  (σ : ns_St) (s0 : Nat) (s1 : Int32) (a0 : Nat) (hk_s0 : ns_kd s0 = 5) (hk_a0 : ns_kd a0 = 5) (hf : g_Tape_nextToken_74 σ s0 s1 a0 = some (r, σ')) : VV G p l e { frames := 1, cells := 0, slots := 0, locals := 20 } s m args below meth c 1 0 0 (MQ below (ns_Qc G none ns_N σ') args s 0 0 (ns_A G)) ns_N σ 74 [(0, .ref (G.1 + a0))] [.int s1, .ref (G.1 + s0)] := by
  unfold g_Tape_nextToken_74 at hf
  obtain ⟨σ32, hσ32, hf⟩ := bnd_e hf
  refine v_putI C 5 3 hσ32 rfl nin_5 ny_5 nty_5 nnm_5 (ns_kd_lt hk_s0 (by decide)) hk_s0 (by decide) (by decide) rfl rfl rfl rfl 32 tw_168 rfl 77 rfl (by decide +kernel) ?_
  refine v_aload_n C 0 0 rfl 78 rfl (by decide +kernel) ?_
  refine v_aload_n C 0 0 rfl 79 rfl (by decide +kernel) ?_
  refine v_getI C 5 4 rfl nin_5 (ns_kd_lt hk_a0 (by decide)) hk_a0 (by decide) (by decide) rfl 35 tw_169 rfl 82 rfl (by decide +kernel) ?_
  obtain ⟨σ33, hσ33, hf⟩ := bnd_e hf
  refine v_putI C 5 5 hσ33 rfl nin_5 ny_5 nty_5 nnm_5 (ns_kd_lt hk_a0 (by decide)) hk_a0 (by decide) (by decide) rfl rfl rfl rfl 22 tw_170 rfl 85 rfl (by decide +kernel) ?_
  refine v_aload_n C 0 0 rfl 86 rfl (by decide +kernel) ?_
  refine v_getI C 5 3 rfl nin_5 (ns_kd_lt hk_a0 (by decide)) hk_a0 (by decide) (by decide) rfl 32 tw_168 rfl 89 rfl (by decide +kernel) ?_
  refine v_iconst C (1) (1) (by decide) 90 rfl (by decide +kernel) ?_
  refine v_icmp_eq C 101 93 rfl (by decide +kernel) (fun h34 => ?_) (fun h34 => ?_)
  · have hf := ite2_t hf h34
    exact t_Tape_nextToken_101 G l C hr  ns_F σ33 a0 hk_a0 hf
  · have hf := ite2_f hf h34
    refine v_aload_n C 0 0 rfl 94 rfl (by decide +kernel) ?_
    refine v_getI C 5 3 rfl nin_5 (ns_kd_lt hk_a0 (by decide)) hk_a0 (by decide) (by decide) rfl 32 tw_168 rfl 97 rfl (by decide +kernel) ?_
    refine v_iconst C (2) (2) (by decide) 98 rfl (by decide +kernel) ?_
    refine v_icmp_ne C 144 101 rfl (by decide +kernel) (fun h35 => ?_) (fun h35 => ?_)
    · have hf := ite2_f hf h35
      refine v_aload_n C 0 0 rfl 145 rfl (by decide +kernel) ?_
      refine v_getI C 5 3 rfl nin_5 (ns_kd_lt hk_a0 (by decide)) hk_a0 (by decide) (by decide) rfl 32 tw_168 rfl 148 rfl (by decide +kernel) ?_
      refine v_if_eq C 161 151 rfl (by decide +kernel) (fun h36 => ?_) (fun h36 => ?_)
      · have hf := ite2_t hf h36
        obtain ⟨rfl, rfl⟩ := ret_e hf
        exact v_vret C hr (by decide +kernel)
      · have hf := ite2_f hf h36
        refine v_aload_n C 0 0 rfl 152 rfl (by decide +kernel) ?_
        refine v_dup C rfl 153 rfl (by decide +kernel) ?_
        refine v_getI C 5 5 rfl nin_5 (ns_kd_lt hk_a0 (by decide)) hk_a0 (by decide) (by decide) rfl 22 tw_170 rfl 156 rfl (by decide +kernel) ?_
        refine v_iconst C (1) (1) (by decide) 157 rfl (by decide +kernel) ?_
        refine v_iadd C 158 rfl (by decide +kernel) ?_
        obtain ⟨σ37, hσ37, hf⟩ := bnd_e hf
        refine v_putI C 5 5 hσ37 rfl nin_5 ny_5 nty_5 nnm_5 (ns_kd_lt hk_a0 (by decide)) hk_a0 (by decide) (by decide) rfl rfl rfl rfl 22 tw_170 rfl 161 rfl (by decide +kernel) ?_
        obtain ⟨rfl, rfl⟩ := ret_e hf
        exact v_vret C hr (by decide +kernel)
    · have hf := ite2_t hf h35
      exact t_Tape_nextToken_101 G l C hr  ns_F σ33 a0 hk_a0 hf
theorem t_Tape_nextToken_46 (G : ns_G) (l : Launch) {p : Program} {e : Env} {s : State} {m : MethodId} {args : Array Value} {below : List Frame} {meth : Method} {c : Code} (C : ns_Cx G p s m args meth c prog_7_method_11_code "NinthStep$Tape" 1) (hr : meth.sig.returnType = none) {r : Unit} {σ' : ns_St}  (σ : ns_St) (a0 : Nat) (hk_a0 : ns_kd a0 = 5) (hf : g_Tape_nextToken_46 σ a0 = some (r, σ')) : VV G p l e { frames := 1, cells := 0, slots := 0, locals := 20 } s m args below meth c 1 0 0 (MQ below (ns_Qc G none ns_N σ') args s 0 0 (ns_A G)) ns_N σ 46 [(0, .ref (G.1 + a0))] [] := by
  unfold g_Tape_nextToken_46 at hf
  refine v_aload_n C 0 0 rfl 47 rfl (by decide +kernel) ?_
  refine v_aload_n C 0 0 rfl 48 rfl (by decide +kernel) ?_
  refine v_getI C 5 4 rfl nin_5 (ns_kd_lt hk_a0 (by decide)) hk_a0 (by decide) (by decide) rfl 35 tw_169 rfl 51 rfl (by decide +kernel) ?_
  refine v_aload_n C 0 0 rfl 52 rfl (by decide +kernel) ?_
  refine v_getI C 5 1 rfl nin_5 (ns_kd_lt hk_a0 (by decide)) hk_a0 (by decide) (by decide) rfl 15 tw_164 rfl 55 rfl (by decide +kernel) ?_
  refine v_icmp_ge C 73 58 rfl (by decide +kernel) (fun h38 => ?_) (fun h38 => ?_)
  · have hf := ite2_t hf h38
    refine v_iconst C (0) (0) (by decide) 74 rfl (by decide +kernel) ?_
    exact t_Tape_nextToken_74 G l C hr  σ a0 (0 : Int32) a0 hk_a0 hk_a0 hf
  · have hf := ite2_f hf h38
    refine v_aload_n C 0 0 rfl 59 rfl (by decide +kernel) ?_
    obtain ⟨b39, hb39, hf⟩ := drf_e hf
    obtain ⟨hk_b39, hf⟩ := grd_e hf
    refine v_getR C 5 0 hb39 rfl nin_5 (ns_kd_lt hk_a0 (by decide)) hk_a0 (by decide) (by decide) rfl 9 tw_163 rfl 62 rfl (by decide +kernel) ?_
    refine v_aload_n C 0 0 rfl 63 rfl (by decide +kernel) ?_
    refine v_getI C 5 4 rfl nin_5 (ns_kd_lt hk_a0 (by decide)) hk_a0 (by decide) (by decide) rfl 35 tw_169 rfl 66 rfl (by decide +kernel) ?_
    obtain ⟨hi40, hf⟩ := grd_e hf
    refine v_iald C (ns_kd_lt hk_b39 (by decide)) hk_b39 hi40 67 rfl (by decide +kernel) ?_
    obtain ⟨r42, σ41, hcr42, hf⟩ := cl2_e hf
    refine v_cS C [.int (σ.1 b39 (ns_ix (σ.1 a0 4)))] [.ref (G.1 + a0)] (c_Tape_sortOf G l σ (σ.1 b39 (ns_ix (σ.1 a0 4))) hcr42) 132 1 tw_533 tw_531 tw_532 tw_5 hd_Tape_sortOf rfl ⟨(Nat.le_of_ble_eq_true rfl), (Nat.le_of_ble_eq_true rfl)⟩ ⟨(Nat.le_of_ble_eq_true rfl), (Nat.le_of_ble_eq_true rfl)⟩ (Nat.le_of_ble_eq_true rfl) rfl 70 rfl (by decide +kernel) [.int r42, .ref (G.1 + a0)] rfl ?_
    refine v_goto C 74 (by decide +kernel) ?_
    exact t_Tape_nextToken_74 G l C hr  σ41 a0 r42 a0 hk_a0 hk_a0 hf
theorem t_Tape_nextToken_8 (G : ns_G) (l : Launch) {p : Program} {e : Env} {s : State} {m : MethodId} {args : Array Value} {below : List Frame} {meth : Method} {c : Code} (C : ns_Cx G p s m args meth c prog_7_method_11_code "NinthStep$Tape" 1) (hr : meth.sig.returnType = none) {r : Unit} {σ' : ns_St}  : ∀ (f : Nat) (σ : ns_St) (a0 : Nat) (hk_a0 : ns_kd a0 = 5), g_Tape_nextToken_8 f σ a0 = some (r, σ') → VV G p l e { frames := 1, cells := 0, slots := 0, locals := 20 } s m args below meth c 1 0 0 (MQ below (ns_Qc G none ns_N σ') args s 0 0 (ns_A G)) ns_N σ 8 [(0, .ref (G.1 + a0))] [] := by
  intro f
  induction f with
  | zero =>
    intro σ a0 hk_a0 hf
    cases hf
  | succ f ih =>
    intro σ a0 hk_a0 hf
    rw [g_Tape_nextToken_8] at hf
    refine v_aload_n C 0 0 rfl 9 rfl (by decide +kernel) ?_
    refine v_getI C 5 4 rfl nin_5 (ns_kd_lt hk_a0 (by decide)) hk_a0 (by decide) (by decide) rfl 35 tw_169 rfl 12 rfl (by decide +kernel) ?_
    refine v_aload_n C 0 0 rfl 13 rfl (by decide +kernel) ?_
    refine v_getI C 5 1 rfl nin_5 (ns_kd_lt hk_a0 (by decide)) hk_a0 (by decide) (by decide) rfl 15 tw_164 rfl 16 rfl (by decide +kernel) ?_
    refine v_icmp_ge C 46 19 rfl (by decide +kernel) (fun h43 => ?_) (fun h43 => ?_)
    · have hf := ite2_t hf h43
      exact t_Tape_nextToken_46 G l C hr  σ a0 hk_a0 hf
    · have hf := ite2_f hf h43
      refine v_aload_n C 0 0 rfl 20 rfl (by decide +kernel) ?_
      obtain ⟨b44, hb44, hf⟩ := drf_e hf
      obtain ⟨hk_b44, hf⟩ := grd_e hf
      refine v_getR C 5 0 hb44 rfl nin_5 (ns_kd_lt hk_a0 (by decide)) hk_a0 (by decide) (by decide) rfl 9 tw_163 rfl 23 rfl (by decide +kernel) ?_
      refine v_aload_n C 0 0 rfl 24 rfl (by decide +kernel) ?_
      refine v_getI C 5 4 rfl nin_5 (ns_kd_lt hk_a0 (by decide)) hk_a0 (by decide) (by decide) rfl 35 tw_169 rfl 27 rfl (by decide +kernel) ?_
      obtain ⟨hi45, hf⟩ := grd_e hf
      refine v_iald C (ns_kd_lt hk_b44 (by decide)) hk_b44 hi45 28 rfl (by decide +kernel) ?_
      refine v_bipush C (32) (32) (by decide) 30 rfl (by decide +kernel) ?_
      refine v_icmp_ne C 46 33 rfl (by decide +kernel) (fun h46 => ?_) (fun h46 => ?_)
      · have hf := ite2_f hf h46
        exact t_Tape_nextToken_46 G l C hr  σ a0 hk_a0 hf
      · have hf := ite2_t hf h46
        refine v_aload_n C 0 0 rfl 34 rfl (by decide +kernel) ?_
        refine v_dup C rfl 35 rfl (by decide +kernel) ?_
        refine v_getI C 5 4 rfl nin_5 (ns_kd_lt hk_a0 (by decide)) hk_a0 (by decide) (by decide) rfl 35 tw_169 rfl 38 rfl (by decide +kernel) ?_
        refine v_iconst C (1) (1) (by decide) 39 rfl (by decide +kernel) ?_
        refine v_iadd C 40 rfl (by decide +kernel) ?_
        obtain ⟨σ47, hσ47, hf⟩ := bnd_e hf
        refine v_putI C 5 4 hσ47 rfl nin_5 ny_5 nty_5 nnm_5 (ns_kd_lt hk_a0 (by decide)) hk_a0 (by decide) (by decide) rfl rfl rfl rfl 35 tw_169 rfl 43 rfl (by decide +kernel) ?_
        refine v_goto C 8 (by decide +kernel) ?_
        exact ih σ47 a0 hk_a0 hf
theorem c_Tape_nextToken (G : ns_G) (l : Launch) (σ : ns_St) (a0 : Nat) {r : Unit} {σ' : ns_St} (hf : g_Tape_nextToken σ a0 = some (r, σ')) : ns_ok G l ⟨"NinthStep$Tape", "nextToken", "()V"⟩ prog_7_method_11_code 1 none 1 20 0 0 [.ref (G.1 + a0)] ns_N σ none ns_N σ' := by
  refine v_open (by decide) (Nat.le_of_ble_eq_true rfl) rfl ?_
  intro p e s m below meth c C hr _
  have C : ns_Cx G p s m _ meth c prog_7_method_11_code "NinthStep$Tape" 1 := C
  unfold g_Tape_nextToken at hf
  obtain ⟨hk_a0, hf⟩ := grd_e hf
  refine v_aload_n C 0 0 rfl 1 rfl (by decide +kernel) ?_
  refine v_aload_n C 0 0 rfl 2 rfl (by decide +kernel) ?_
  refine v_getI C 5 5 rfl nin_5 (ns_kd_lt hk_a0 (by decide)) hk_a0 (by decide) (by decide) rfl 22 tw_170 rfl 5 rfl (by decide +kernel) ?_
  obtain ⟨σ48, hσ48, hf⟩ := bnd_e hf
  refine v_putI C 5 4 hσ48 rfl nin_5 ny_5 nty_5 nnm_5 (ns_kd_lt hk_a0 (by decide)) hk_a0 (by decide) (by decide) rfl rfl rfl rfl 35 tw_169 rfl 8 rfl (by decide +kernel) ?_
  exact t_Tape_nextToken_8 G l C hr  ns_F σ48 a0 hk_a0 hf
theorem hd_Tape_nextToken : (⟨"NinthStep$Tape", "nextToken", "()V"⟩ : MethodName).cls = "NinthStep$Tape" ∧ (⟨"NinthStep$Tape", "nextToken", "()V"⟩ : MethodName).cls ≠ "java/lang/invoke/MethodHandle" ∧ (⟨"NinthStep$Tape", "nextToken", "()V"⟩ : MethodName).cls ≠ "java/lang/invoke/VarHandle" ∧ (parseMethodDescriptor (⟨"NinthStep$Tape", "nextToken", "()V"⟩ : MethodName).desc).map (fun d => d.parameters.length) = some 0 := by decide +kernel
def g_Tape_isWord_28  : Nat → ns_St → Nat → Nat → Int32 → Option (Int32 × ns_St)
  | 0, _, _, _, _ => none
  | f + 1, σ, a0, x1, x2 => cl2 (g_String_length σ x1) fun r16 σ15 => ite2 (r16 ≤ x2) (some ((1 : Int32), σ15)) (ite2 ((250 : Int32) ≤ ((σ15.1 a0 4) + x2)) (some ((1 : Int32), σ15)) (drf (σ15.2.2 a0 0) fun b19 => grd (ns_kd b19 = 10) <| grd (ns_in ((σ15.1 a0 4) + x2) (ns_ln b19)) <| cl2 (g_String_charAt σ15 x1 x2) fun r22 σ21 => ite2 ((σ15.1 b19 (ns_ix ((σ15.1 a0 4) + x2))) = r22) (bnd (x2 + 1) fun z24 => (g_Tape_isWord_28 f) σ21 a0 x1 z24) (some ((0 : Int32), σ21))))
def g_Tape_isWord (σ : ns_St) (a0 : Nat) (x1 : Nat) : Option (Int32 × ns_St) := grd (ns_kd a0 = 5) <| grd (x1 < 8) <| ite2 ((σ.1 a0 3) = (1 : Int32)) (cl2 (g_String_length σ x1) fun r27 σ26 => ite2 (((σ.1 a0 5) - (σ.1 a0 4)) = r27) (g_Tape_isWord_28 ns_F σ26 a0 x1 (0 : Int32)) (some ((0 : Int32), σ26))) (some ((0 : Int32), σ))
theorem t_Tape_isWord_28 (G : ns_G) (l : Launch) {p : Program} {e : Env} {s : State} {m : MethodId} {args : Array Value} {below : List Frame} {meth : Method} {c : Code} (C : ns_Cx G p s m args meth c prog_7_method_10_code "NinthStep$Tape" 3) (hr : meth.sig.returnType = (some .boolean)) {r : Int32} {σ' : ns_St}  : ∀ (f : Nat) (σ : ns_St) (a0 : Nat) (x1 : Nat) (x2 : Int32) (hk_a0 : ns_kd a0 = 5) (hk_x1 : x1 < 8), g_Tape_isWord_28 f σ a0 x1 x2 = some (r, σ') → VV G p l e { frames := 4, cells := 0, slots := 0, locals := 85 } s m args below meth c 3 0 0 (MQ below (ns_Qc G (some (.int r)) ns_N σ') args s 0 0 (ns_A G)) ns_N σ 28 [(0, .ref (G.1 + a0)), (1, .ref (ns_sK G x1)), (2, .int x2)] [] := by
  intro f
  induction f with
  | zero =>
    intro σ a0 x1 x2 hk_a0 hk_x1 hf
    cases hf
  | succ f ih =>
    intro σ a0 x1 x2 hk_a0 hk_x1 hf
    rw [g_Tape_isWord_28] at hf
    refine v_iload_n C 2 2 rfl 29 rfl (by decide +kernel) ?_
    refine v_aload_n C 1 1 rfl 30 rfl (by decide +kernel) ?_
    obtain ⟨r16, σ15, hcr16, hf⟩ := cl2_e hf
    refine v_cVT C hk_x1 [] [.int x2] (c_String_length G l σ x1 hcr16) 124 0 tw_546 tw_543 tw_544 tw_545 tw_14 hd_String_length rfl ⟨(Nat.le_of_ble_eq_true rfl), (Nat.le_of_ble_eq_true rfl)⟩ ⟨(Nat.le_of_ble_eq_true rfl), (Nat.le_of_ble_eq_true rfl)⟩ (Nat.le_of_ble_eq_true rfl) rfl 33 rfl (by decide +kernel) [.int r16, .int x2] rfl ?_
    refine v_icmp_ge C 75 36 rfl (by decide +kernel) (fun h17 => ?_) (fun h17 => ?_)
    · have hf := ite2_t hf h17
      refine v_iconst C (1) (1) (by decide) 76 rfl (by decide +kernel) ?_
      obtain ⟨rfl, rfl⟩ := ret_e hf
      exact v_zret C hr rfl (by decide +kernel)
    · have hf := ite2_f hf h17
      refine v_aload_n C 0 0 rfl 37 rfl (by decide +kernel) ?_
      refine v_getI C 5 4 rfl nin_5 (ns_kd_lt hk_a0 (by decide)) hk_a0 (by decide) (by decide) rfl 35 tw_169 rfl 40 rfl (by decide +kernel) ?_
      refine v_iload_n C 2 2 rfl 41 rfl (by decide +kernel) ?_
      refine v_iadd C 42 rfl (by decide +kernel) ?_
      refine v_sipush C (250) (250) (by decide) 45 rfl (by decide +kernel) ?_
      refine v_icmp_ge C 75 48 rfl (by decide +kernel) (fun h18 => ?_) (fun h18 => ?_)
      · have hf := ite2_t hf h18
        refine v_iconst C (1) (1) (by decide) 76 rfl (by decide +kernel) ?_
        obtain ⟨rfl, rfl⟩ := ret_e hf
        exact v_zret C hr rfl (by decide +kernel)
      · have hf := ite2_f hf h18
        refine v_aload_n C 0 0 rfl 49 rfl (by decide +kernel) ?_
        obtain ⟨b19, hb19, hf⟩ := drf_e hf
        obtain ⟨hk_b19, hf⟩ := grd_e hf
        refine v_getR C 5 0 hb19 rfl nin_5 (ns_kd_lt hk_a0 (by decide)) hk_a0 (by decide) (by decide) rfl 9 tw_163 rfl 52 rfl (by decide +kernel) ?_
        refine v_aload_n C 0 0 rfl 53 rfl (by decide +kernel) ?_
        refine v_getI C 5 4 rfl nin_5 (ns_kd_lt hk_a0 (by decide)) hk_a0 (by decide) (by decide) rfl 35 tw_169 rfl 56 rfl (by decide +kernel) ?_
        refine v_iload_n C 2 2 rfl 57 rfl (by decide +kernel) ?_
        refine v_iadd C 58 rfl (by decide +kernel) ?_
        obtain ⟨hi20, hf⟩ := grd_e hf
        refine v_iald C (ns_kd_lt hk_b19 (by decide)) hk_b19 hi20 59 rfl (by decide +kernel) ?_
        refine v_aload_n C 1 1 rfl 60 rfl (by decide +kernel) ?_
        refine v_iload_n C 2 2 rfl 61 rfl (by decide +kernel) ?_
        obtain ⟨r22, σ21, hcr22, hf⟩ := cl2_e hf
        refine v_cVT C hk_x1 [.int x2] [.int (σ15.1 b19 (ns_ix ((σ15.1 a0 4) + x2)))] (c_String_charAt G l σ15 x1 x2 hcr22) 128 1 tw_556 tw_553 tw_554 tw_555 tw_14 hd_String_charAt rfl ⟨(Nat.le_of_ble_eq_true rfl), (Nat.le_of_ble_eq_true rfl)⟩ ⟨(Nat.le_of_ble_eq_true rfl), (Nat.le_of_ble_eq_true rfl)⟩ (Nat.le_of_ble_eq_true rfl) rfl 64 rfl (by decide +kernel) [.int r22, .int (σ15.1 b19 (ns_ix ((σ15.1 a0 4) + x2)))] rfl ?_
        refine v_icmp_eq C 69 67 rfl (by decide +kernel) (fun h23 => ?_) (fun h23 => ?_)
        · have hf := ite2_t hf h23
          obtain ⟨z24, hz24, hf⟩ := bnd_e hf
          refine v_iinc C 2 (1) 2 z24 rfl (by rw [hz24]; rfl) [(2, .int z24), (0, .ref (G.1 + a0)), (1, .ref (ns_sK G x1))] (by decide) rfl 72 rfl (by decide +kernel) ?_
          refine v_goto C 28 (by decide +kernel) ?_
          refine v_sub [1, 2, 0] rfl ?_
          exact ih σ21 a0 x1 z24 hk_a0 hk_x1 hf
        · have hf := ite2_f hf h23
          refine v_iconst C (0) (0) (by decide) 68 rfl (by decide +kernel) ?_
          obtain ⟨rfl, rfl⟩ := ret_e hf
          exact v_zret C hr rfl (by decide +kernel)
theorem c_Tape_isWord (G : ns_G) (l : Launch) (σ : ns_St) (a0 : Nat) (x1 : Nat) {r : Int32} {σ' : ns_St} (hf : g_Tape_isWord σ a0 x1 = some (r, σ')) : ns_ok G l ⟨"NinthStep$Tape", "isWord", "(Ljava/lang/String;)Z"⟩ prog_7_method_10_code 3 (some .boolean) 4 85 0 0 [.ref (G.1 + a0), .ref (ns_sK G x1)] ns_N σ (some (.int r)) ns_N σ' := by
  refine v_open (by decide) (Nat.le_of_ble_eq_true rfl) rfl ?_
  intro p e s m below meth c C hr _
  have C : ns_Cx G p s m _ meth c prog_7_method_10_code "NinthStep$Tape" 3 := C
  unfold g_Tape_isWord at hf
  obtain ⟨hk_a0, hf⟩ := grd_e hf
  obtain ⟨hk_x1, hf⟩ := grd_e hf
  refine v_aload_n C 0 0 rfl 1 rfl (by decide +kernel) ?_
  refine v_getI C 5 3 rfl nin_5 (ns_kd_lt hk_a0 (by decide)) hk_a0 (by decide) (by decide) rfl 32 tw_168 rfl 4 rfl (by decide +kernel) ?_
  refine v_iconst C (1) (1) (by decide) 5 rfl (by decide +kernel) ?_
  refine v_icmp_ne C 24 8 rfl (by decide +kernel) (fun h25 => ?_) (fun h25 => ?_)
  · have hf := ite2_f hf h25
    refine v_iconst C (0) (0) (by decide) 25 rfl (by decide +kernel) ?_
    obtain ⟨rfl, rfl⟩ := ret_e hf
    exact v_zret C hr rfl (by decide +kernel)
  · have hf := ite2_t hf h25
    refine v_aload_n C 0 0 rfl 9 rfl (by decide +kernel) ?_
    refine v_getI C 5 5 rfl nin_5 (ns_kd_lt hk_a0 (by decide)) hk_a0 (by decide) (by decide) rfl 22 tw_170 rfl 12 rfl (by decide +kernel) ?_
    refine v_aload_n C 0 0 rfl 13 rfl (by decide +kernel) ?_
    refine v_getI C 5 4 rfl nin_5 (ns_kd_lt hk_a0 (by decide)) hk_a0 (by decide) (by decide) rfl 35 tw_169 rfl 16 rfl (by decide +kernel) ?_
    refine v_isub C 17 rfl (by decide +kernel) ?_
    refine v_aload_n C 1 1 rfl 18 rfl (by decide +kernel) ?_
    obtain ⟨r27, σ26, hcr27, hf⟩ := cl2_e hf
    refine v_cVT C hk_x1 [] [.int ((σ.1 a0 5) - (σ.1 a0 4))] (c_String_length G l σ x1 hcr27) 124 0 tw_546 tw_543 tw_544 tw_545 tw_14 hd_String_length rfl ⟨(Nat.le_of_ble_eq_true rfl), (Nat.le_of_ble_eq_true rfl)⟩ ⟨(Nat.le_of_ble_eq_true rfl), (Nat.le_of_ble_eq_true rfl)⟩ (Nat.le_of_ble_eq_true rfl) rfl 21 rfl (by decide +kernel) [.int r27, .int ((σ.1 a0 5) - (σ.1 a0 4))] rfl ?_
    refine v_icmp_eq C 26 24 rfl (by decide +kernel) (fun h28 => ?_) (fun h28 => ?_)
    · have hf := ite2_t hf h28
      refine v_iconst C (0) (0) (by decide) 27 rfl (by decide +kernel) ?_
      refine v_istore_n C 2 [(2, .int (0 : Int32)), (0, .ref (G.1 + a0)), (1, .ref (ns_sK G x1))] (by decide) rfl 28 rfl (by decide +kernel) ?_
      refine v_sub [1, 2, 0] rfl ?_
      exact t_Tape_isWord_28 G l C hr  ns_F σ26 a0 x1 (0 : Int32) hk_a0 hk_x1 hf
    · have hf := ite2_f hf h28
      refine v_iconst C (0) (0) (by decide) 25 rfl (by decide +kernel) ?_
      obtain ⟨rfl, rfl⟩ := ret_e hf
      exact v_zret C hr rfl (by decide +kernel)
theorem hd_Tape_isWord : (⟨"NinthStep$Tape", "isWord", "(Ljava/lang/String;)Z"⟩ : MethodName).cls = "NinthStep$Tape" ∧ (⟨"NinthStep$Tape", "isWord", "(Ljava/lang/String;)Z"⟩ : MethodName).cls ≠ "java/lang/invoke/MethodHandle" ∧ (⟨"NinthStep$Tape", "isWord", "(Ljava/lang/String;)Z"⟩ : MethodName).cls ≠ "java/lang/invoke/VarHandle" ∧ (parseMethodDescriptor (⟨"NinthStep$Tape", "isWord", "(Ljava/lang/String;)Z"⟩ : MethodName).desc).map (fun d => d.parameters.length) = some 1 := by decide +kernel
def g_Tape_numberRead_7  : Nat → ns_St → Nat → Int32 → Int32 → Option (Int32 × ns_St)
  | 0, _, _, _, _ => none
  | f + 1, σ, a0, x1, x2 => ite2 ((σ.1 a0 5) ≤ x2) (some (x1, σ)) (ite2 ((250 : Int32) ≤ x2) (some (x1, σ)) (drf (σ.2.2 a0 0) fun b10 => grd (ns_kd b10 = 10) <| grd (ns_in x2 (ns_ln b10)) <| bnd (((x1 * (10 : Int32)) + (σ.1 b10 (ns_ix x2))) - (48 : Int32)) fun z12 => bnd (x2 + 1) fun z13 => (g_Tape_numberRead_7 f) σ a0 z12 z13))
def g_Tape_numberRead (σ : ns_St) (a0 : Nat) : Option (Int32 × ns_St) := grd (ns_kd a0 = 5) <| bnd (σ.1 a0 4) fun z14 => g_Tape_numberRead_7 ns_F σ a0 (0 : Int32) z14
theorem t_Tape_numberRead_7 (G : ns_G) (l : Launch) {p : Program} {e : Env} {s : State} {m : MethodId} {args : Array Value} {below : List Frame} {meth : Method} {c : Code} (C : ns_Cx G p s m args meth c prog_7_method_9_code "NinthStep$Tape" 3) (hr : meth.sig.returnType = (some .int)) {r : Int32} {σ' : ns_St}  : ∀ (f : Nat) (σ : ns_St) (a0 : Nat) (x1 : Int32) (x2 : Int32) (hk_a0 : ns_kd a0 = 5), g_Tape_numberRead_7 f σ a0 x1 x2 = some (r, σ') → VV G p l e { frames := 0, cells := 0, slots := 0, locals := 0 } s m args below meth c 3 0 0 (MQ below (ns_Qc G (some (.int r)) ns_N σ') args s 0 0 (ns_A G)) ns_N σ 7 [(0, .ref (G.1 + a0)), (1, .int x1), (2, .int x2)] [] := by
  intro f
  induction f with
  | zero =>
    intro σ a0 x1 x2 hk_a0 hf
    cases hf
  | succ f ih =>
    intro σ a0 x1 x2 hk_a0 hf
    rw [g_Tape_numberRead_7] at hf
    refine v_iload_n C 2 2 rfl 8 rfl (by decide +kernel) ?_
    refine v_aload_n C 0 0 rfl 9 rfl (by decide +kernel) ?_
    refine v_getI C 5 5 rfl nin_5 (ns_kd_lt hk_a0 (by decide)) hk_a0 (by decide) (by decide) rfl 22 tw_170 rfl 12 rfl (by decide +kernel) ?_
    refine v_icmp_ge C 43 15 rfl (by decide +kernel) (fun h8 => ?_) (fun h8 => ?_)
    · have hf := ite2_t hf h8
      refine v_iload_n C 1 1 rfl 44 rfl (by decide +kernel) ?_
      obtain ⟨rfl, rfl⟩ := ret_e hf
      exact v_iret C hr (by decide +kernel)
    · have hf := ite2_f hf h8
      refine v_iload_n C 2 2 rfl 16 rfl (by decide +kernel) ?_
      refine v_sipush C (250) (250) (by decide) 19 rfl (by decide +kernel) ?_
      refine v_icmp_ge C 43 22 rfl (by decide +kernel) (fun h9 => ?_) (fun h9 => ?_)
      · have hf := ite2_t hf h9
        refine v_iload_n C 1 1 rfl 44 rfl (by decide +kernel) ?_
        obtain ⟨rfl, rfl⟩ := ret_e hf
        exact v_iret C hr (by decide +kernel)
      · have hf := ite2_f hf h9
        refine v_iload_n C 1 1 rfl 23 rfl (by decide +kernel) ?_
        refine v_bipush C (10) (10) (by decide) 25 rfl (by decide +kernel) ?_
        refine v_imul C 26 rfl (by decide +kernel) ?_
        refine v_aload_n C 0 0 rfl 27 rfl (by decide +kernel) ?_
        obtain ⟨b10, hb10, hf⟩ := drf_e hf
        obtain ⟨hk_b10, hf⟩ := grd_e hf
        refine v_getR C 5 0 hb10 rfl nin_5 (ns_kd_lt hk_a0 (by decide)) hk_a0 (by decide) (by decide) rfl 9 tw_163 rfl 30 rfl (by decide +kernel) ?_
        refine v_iload_n C 2 2 rfl 31 rfl (by decide +kernel) ?_
        obtain ⟨hi11, hf⟩ := grd_e hf
        refine v_iald C (ns_kd_lt hk_b10 (by decide)) hk_b10 hi11 32 rfl (by decide +kernel) ?_
        refine v_iadd C 33 rfl (by decide +kernel) ?_
        refine v_bipush C (48) (48) (by decide) 35 rfl (by decide +kernel) ?_
        refine v_isub C 36 rfl (by decide +kernel) ?_
        obtain ⟨z12, hz12, hf⟩ := bnd_e hf
        refine v_nmI hz12 ?_
        refine v_istore_n C 1 [(1, .int z12), (0, .ref (G.1 + a0)), (2, .int x2)] (by decide) rfl 37 rfl (by decide +kernel) ?_
        obtain ⟨z13, hz13, hf⟩ := bnd_e hf
        refine v_iinc C 2 (1) 2 z13 rfl (by rw [hz13]; rfl) [(2, .int z13), (1, .int z12), (0, .ref (G.1 + a0))] (by decide) rfl 40 rfl (by decide +kernel) ?_
        refine v_goto C 7 (by decide +kernel) ?_
        refine v_sub [2, 1, 0] rfl ?_
        exact ih σ a0 z12 z13 hk_a0 hf
theorem c_Tape_numberRead (G : ns_G) (l : Launch) (σ : ns_St) (a0 : Nat) {r : Int32} {σ' : ns_St} (hf : g_Tape_numberRead σ a0 = some (r, σ')) : ns_ok G l ⟨"NinthStep$Tape", "numberRead", "()I"⟩ prog_7_method_9_code 3 (some .int) 0 0 0 0 [.ref (G.1 + a0)] ns_N σ (some (.int r)) ns_N σ' := by
  refine v_open (by decide) (Nat.le_of_ble_eq_true rfl) rfl ?_
  intro p e s m below meth c C hr _
  have C : ns_Cx G p s m _ meth c prog_7_method_9_code "NinthStep$Tape" 3 := C
  unfold g_Tape_numberRead at hf
  obtain ⟨hk_a0, hf⟩ := grd_e hf
  refine v_iconst C (0) (0) (by decide) 1 rfl (by decide +kernel) ?_
  refine v_istore_n C 1 [(1, .int (0 : Int32)), (0, .ref (G.1 + a0))] (by decide) rfl 2 rfl (by decide +kernel) ?_
  refine v_aload_n C 0 1 rfl 3 rfl (by decide +kernel) ?_
  refine v_getI C 5 4 rfl nin_5 (ns_kd_lt hk_a0 (by decide)) hk_a0 (by decide) (by decide) rfl 35 tw_169 rfl 6 rfl (by decide +kernel) ?_
  obtain ⟨z14, hz14, hf⟩ := bnd_e hf
  refine v_nmI hz14 ?_
  refine v_istore_n C 2 [(2, .int z14), (1, .int (0 : Int32)), (0, .ref (G.1 + a0))] (by decide) rfl 7 rfl (by decide +kernel) ?_
  refine v_sub [2, 1, 0] rfl ?_
  exact t_Tape_numberRead_7 G l C hr  ns_F σ a0 (0 : Int32) z14 hk_a0 hf
theorem hd_Tape_numberRead : (⟨"NinthStep$Tape", "numberRead", "()I"⟩ : MethodName).cls = "NinthStep$Tape" ∧ (⟨"NinthStep$Tape", "numberRead", "()I"⟩ : MethodName).cls ≠ "java/lang/invoke/MethodHandle" ∧ (⟨"NinthStep$Tape", "numberRead", "()I"⟩ : MethodName).cls ≠ "java/lang/invoke/VarHandle" ∧ (parseMethodDescriptor (⟨"NinthStep$Tape", "numberRead", "()I"⟩ : MethodName).desc).map (fun d => d.parameters.length) = some 0 := by decide +kernel
def g_Tape_takeNumber_39  (σ : ns_St) (s0 : Int32) (a0 : Nat) (x1 : Int32) (x2 : Int32) : Option (Int32 × ns_St) := cl2 (g_N_isWithin σ s0 x1 x2) fun r13 σ12 => ite2 (r13 = 0) (bnd (ns_pI σ12 a0 2 (σ12.1 a0 4)) fun σ17 => some (x1, σ17)) (cl2 (g_Tape_nextToken σ12 a0) fun r16 σ15 => some (s0, σ15))
def g_Tape_takeNumber_38  (σ : ns_St) (a0 : Nat) (x1 : Int32) (x2 : Int32) : Option (Int32 × ns_St) := g_Tape_takeNumber_39 σ (-1 : Int32) a0 x1 x2
def g_Tape_takeNumber (σ : ns_St) (a0 : Nat) (x1 : Int32) (x2 : Int32) : Option (Int32 × ns_St) := grd (ns_kd a0 = 5) <| ite2 ((σ.1 a0 2) = (-1 : Int32)) (ite2 ((σ.1 a0 3) = (2 : Int32)) (ite2 ((2 : Int32) < ((σ.1 a0 5) - (σ.1 a0 4))) (g_Tape_takeNumber_38 σ a0 x1 x2) (cl2 (g_Tape_numberRead σ a0) fun r22 σ21 => g_Tape_takeNumber_39 σ21 r22 a0 x1 x2)) (g_Tape_takeNumber_38 σ a0 x1 x2)) (some (x1, σ))
theorem t_Tape_takeNumber_39 (G : ns_G) (l : Launch) {p : Program} {e : Env} {s : State} {m : MethodId} {args : Array Value} {below : List Frame} {meth : Method} {c : Code} (C : ns_Cx G p s m args meth c prog_7_method_8_code "NinthStep$Tape" 4) (hr : meth.sig.returnType = (some .int)) {r : Int32} {σ' : ns_St}  (σ : ns_St) (s0 : Int32) (a0 : Nat) (x1 : Int32) (x2 : Int32) (hk_a0 : ns_kd a0 = 5) (hf : g_Tape_takeNumber_39 σ s0 a0 x1 x2 = some (r, σ')) : VV G p l e { frames := 2, cells := 0, slots := 0, locals := 40 } s m args below meth c 4 0 0 (MQ below (ns_Qc G (some (.int r)) ns_N σ') args s 0 0 (ns_A G)) ns_N σ 39 [(0, .ref (G.1 + a0)), (1, .int x1), (2, .int x2)] [.int s0] := by
  unfold g_Tape_takeNumber_39 at hf
  refine v_istore_n C 3 [(3, .int s0), (0, .ref (G.1 + a0)), (1, .int x1), (2, .int x2)] (by decide) rfl 40 rfl (by decide +kernel) ?_
  refine v_iload_n C 3 0 rfl 41 rfl (by decide +kernel) ?_
  refine v_iload_n C 1 2 rfl 42 rfl (by decide +kernel) ?_
  refine v_iload_n C 2 3 rfl 43 rfl (by decide +kernel) ?_
  obtain ⟨r13, σ12, hcr13, hf⟩ := cl2_e hf
  refine v_cSN C [.int s0, .int x1, .int x2] [] (c_N_isWithin G l σ s0 x1 x2 hcr13) 120 3 tw_334 tw_607 tw_333 tw_1 hd_N_isWithin rfl ⟨(Nat.le_of_ble_eq_true rfl), (Nat.le_of_ble_eq_true rfl)⟩ ⟨(Nat.le_of_ble_eq_true rfl), (Nat.le_of_ble_eq_true rfl)⟩ (Nat.le_of_ble_eq_true rfl) rfl 46 rfl (by decide +kernel) [.int r13] rfl ?_
  refine v_if_ne C 59 49 rfl (by decide +kernel) (fun h14 => ?_) (fun h14 => ?_)
  · have hf := ite2_f hf h14
    refine v_aload_n C 0 1 rfl 60 rfl (by decide +kernel) ?_
    obtain ⟨r16, σ15, hcr16, hf⟩ := cl2_e hf
    refine v_cV C 5 rfl (ns_kd_lt hk_a0 (by decide)) hk_a0 (by decide) [] [] (c_Tape_nextToken G l σ12 a0 hcr16) 25 0 tw_530 tw_527 tw_529 ts_21 tw_5 hd_Tape_nextToken rfl ⟨(Nat.le_of_ble_eq_true rfl), (Nat.le_of_ble_eq_true rfl)⟩ ⟨(Nat.le_of_ble_eq_true rfl), (Nat.le_of_ble_eq_true rfl)⟩ (Nat.le_of_ble_eq_true rfl) rfl 63 rfl (by decide +kernel) [] rfl ?_
    refine v_iload_n C 3 0 rfl 64 rfl (by decide +kernel) ?_
    obtain ⟨rfl, rfl⟩ := ret_e hf
    exact v_iret C hr (by decide +kernel)
  · have hf := ite2_t hf h14
    refine v_aload_n C 0 1 rfl 50 rfl (by decide +kernel) ?_
    refine v_aload_n C 0 1 rfl 51 rfl (by decide +kernel) ?_
    refine v_getI C 5 4 rfl nin_5 (ns_kd_lt hk_a0 (by decide)) hk_a0 (by decide) (by decide) rfl 35 tw_169 rfl 54 rfl (by decide +kernel) ?_
    obtain ⟨σ17, hσ17, hf⟩ := bnd_e hf
    refine v_putI C 5 2 hσ17 rfl nin_5 ny_5 nty_5 nnm_5 (ns_kd_lt hk_a0 (by decide)) hk_a0 (by decide) (by decide) rfl rfl rfl rfl 19 tw_166 rfl 57 rfl (by decide +kernel) ?_
    refine v_iload_n C 1 2 rfl 58 rfl (by decide +kernel) ?_
    obtain ⟨rfl, rfl⟩ := ret_e hf
    exact v_iret C hr (by decide +kernel)
theorem t_Tape_takeNumber_38 (G : ns_G) (l : Launch) {p : Program} {e : Env} {s : State} {m : MethodId} {args : Array Value} {below : List Frame} {meth : Method} {c : Code} (C : ns_Cx G p s m args meth c prog_7_method_8_code "NinthStep$Tape" 4) (hr : meth.sig.returnType = (some .int)) {r : Int32} {σ' : ns_St}  (σ : ns_St) (a0 : Nat) (x1 : Int32) (x2 : Int32) (hk_a0 : ns_kd a0 = 5) (hf : g_Tape_takeNumber_38 σ a0 x1 x2 = some (r, σ')) : VV G p l e { frames := 2, cells := 0, slots := 0, locals := 40 } s m args below meth c 4 0 0 (MQ below (ns_Qc G (some (.int r)) ns_N σ') args s 0 0 (ns_A G)) ns_N σ 38 [(0, .ref (G.1 + a0)), (1, .int x1), (2, .int x2)] [] := by
  unfold g_Tape_takeNumber_38 at hf
  refine v_iconst C (-1) (-1) (by decide) 39 rfl (by decide +kernel) ?_
  exact t_Tape_takeNumber_39 G l C hr  σ (-1 : Int32) a0 x1 x2 hk_a0 hf
theorem c_Tape_takeNumber (G : ns_G) (l : Launch) (σ : ns_St) (a0 : Nat) (x1 : Int32) (x2 : Int32) {r : Int32} {σ' : ns_St} (hf : g_Tape_takeNumber σ a0 x1 x2 = some (r, σ')) : ns_ok G l ⟨"NinthStep$Tape", "takeNumber", "(II)I"⟩ prog_7_method_8_code 4 (some .int) 2 40 0 0 [.ref (G.1 + a0), .int x1, .int x2] ns_N σ (some (.int r)) ns_N σ' := by
  refine v_open (by decide) (Nat.le_of_ble_eq_true rfl) rfl ?_
  intro p e s m below meth c C hr _
  have C : ns_Cx G p s m _ meth c prog_7_method_8_code "NinthStep$Tape" 4 := C
  unfold g_Tape_takeNumber at hf
  obtain ⟨hk_a0, hf⟩ := grd_e hf
  refine v_aload_n C 0 0 rfl 1 rfl (by decide +kernel) ?_
  refine v_getI C 5 2 rfl nin_5 (ns_kd_lt hk_a0 (by decide)) hk_a0 (by decide) (by decide) rfl 19 tw_166 rfl 4 rfl (by decide +kernel) ?_
  refine v_iconst C (-1) (-1) (by decide) 5 rfl (by decide +kernel) ?_
  refine v_icmp_eq C 10 8 rfl (by decide +kernel) (fun h18 => ?_) (fun h18 => ?_)
  · have hf := ite2_t hf h18
    refine v_aload_n C 0 0 rfl 11 rfl (by decide +kernel) ?_
    refine v_getI C 5 3 rfl nin_5 (ns_kd_lt hk_a0 (by decide)) hk_a0 (by decide) (by decide) rfl 32 tw_168 rfl 14 rfl (by decide +kernel) ?_
    refine v_iconst C (2) (2) (by decide) 15 rfl (by decide +kernel) ?_
    refine v_icmp_ne C 38 18 rfl (by decide +kernel) (fun h19 => ?_) (fun h19 => ?_)
    · have hf := ite2_f hf h19
      exact t_Tape_takeNumber_38 G l C hr  σ a0 x1 x2 hk_a0 hf
    · have hf := ite2_t hf h19
      refine v_aload_n C 0 0 rfl 19 rfl (by decide +kernel) ?_
      refine v_getI C 5 5 rfl nin_5 (ns_kd_lt hk_a0 (by decide)) hk_a0 (by decide) (by decide) rfl 22 tw_170 rfl 22 rfl (by decide +kernel) ?_
      refine v_aload_n C 0 0 rfl 23 rfl (by decide +kernel) ?_
      refine v_getI C 5 4 rfl nin_5 (ns_kd_lt hk_a0 (by decide)) hk_a0 (by decide) (by decide) rfl 35 tw_169 rfl 26 rfl (by decide +kernel) ?_
      refine v_isub C 27 rfl (by decide +kernel) ?_
      refine v_iconst C (2) (2) (by decide) 28 rfl (by decide +kernel) ?_
      refine v_icmp_gt C 38 31 rfl (by decide +kernel) (fun h20 => ?_) (fun h20 => ?_)
      · have hf := ite2_t hf h20
        exact t_Tape_takeNumber_38 G l C hr  σ a0 x1 x2 hk_a0 hf
      · have hf := ite2_f hf h20
        refine v_aload_n C 0 0 rfl 32 rfl (by decide +kernel) ?_
        obtain ⟨r22, σ21, hcr22, hf⟩ := cl2_e hf
        refine v_cV C 5 rfl (ns_kd_lt hk_a0 (by decide)) hk_a0 (by decide) [] [] (c_Tape_numberRead G l σ a0 hcr22) 117 0 tw_606 tw_603 tw_605 ts_26 tw_5 hd_Tape_numberRead rfl ⟨(Nat.le_of_ble_eq_true rfl), (Nat.le_of_ble_eq_true rfl)⟩ ⟨(Nat.le_of_ble_eq_true rfl), (Nat.le_of_ble_eq_true rfl)⟩ (Nat.le_of_ble_eq_true rfl) rfl 35 rfl (by decide +kernel) [.int r22] rfl ?_
        refine v_goto C 39 (by decide +kernel) ?_
        exact t_Tape_takeNumber_39 G l C hr  σ21 r22 a0 x1 x2 hk_a0 hf
  · have hf := ite2_f hf h18
    refine v_iload_n C 1 1 rfl 9 rfl (by decide +kernel) ?_
    obtain ⟨rfl, rfl⟩ := ret_e hf
    exact v_iret C hr (by decide +kernel)
theorem hd_Tape_takeNumber : (⟨"NinthStep$Tape", "takeNumber", "(II)I"⟩ : MethodName).cls = "NinthStep$Tape" ∧ (⟨"NinthStep$Tape", "takeNumber", "(II)I"⟩ : MethodName).cls ≠ "java/lang/invoke/MethodHandle" ∧ (⟨"NinthStep$Tape", "takeNumber", "(II)I"⟩ : MethodName).cls ≠ "java/lang/invoke/VarHandle" ∧ (parseMethodDescriptor (⟨"NinthStep$Tape", "takeNumber", "(II)I"⟩ : MethodName).desc).map (fun d => d.parameters.length) = some 2 := by decide +kernel
def g_Tape_readLength (σ : ns_St) (a0 : Nat) (a1 : Nat) : Option (Unit × ns_St) := grd (ns_kd a0 = 5) <| grd (ns_kd a1 = 7) <| ite2 ((σ.1 a1 2) ≤ 0) (cl2 (g_Tape_nextToken σ a0) fun r17 σ16 => drf (σ16.2.2 a1 0) fun b18 => grd (ns_kd b18 = 1) <| cl2 (g_Ground_highest σ16 b18) fun r20 σ19 => cl2 (g_Math_max σ19 (1 : Int32) r20) fun r22 σ21 => cl2 (g_Tape_takeNumber σ21 a0 r22 (60 : Int32)) fun r24 σ23 => ite2 ((σ23.1 a0 2) = (-1 : Int32)) (drf (σ23.2.2 a1 0) fun b26 => grd (ns_kd b26 = 1) <| bnd (ns_pI σ23 b26 0 r24) fun σ27 => some ((), σ27)) (some ((), σ23))) (bnd (ns_pI σ a0 2 (σ.1 a0 4)) fun σ28 => some ((), σ28))
theorem c_Tape_readLength (G : ns_G) (l : Launch) (σ : ns_St) (a0 : Nat) (a1 : Nat) {r : Unit} {σ' : ns_St} (hf : g_Tape_readLength σ a0 a1 = some (r, σ')) : ns_ok G l ⟨"NinthStep$Tape", "readLength", "(LNinthStep$World;)V"⟩ prog_7_method_5_code 3 none 4 84 0 0 [.ref (G.1 + a0), .ref (G.1 + a1)] ns_N σ none ns_N σ' := by
  refine v_open (by decide) (Nat.le_of_ble_eq_true rfl) rfl ?_
  intro p e s m below meth c C hr _
  have C : ns_Cx G p s m _ meth c prog_7_method_5_code "NinthStep$Tape" 3 := C
  unfold g_Tape_readLength at hf
  obtain ⟨hk_a0, hf⟩ := grd_e hf
  obtain ⟨hk_a1, hf⟩ := grd_e hf
  refine v_aload_n C 1 1 rfl 1 rfl (by decide +kernel) ?_
  refine v_getIN C 7 2 rfl nin_7 (ns_kd_lt hk_a1 (by decide)) hk_a1 (by decide) (by decide) rfl 70 tw_134 rfl 4 rfl (by decide +kernel) ?_
  refine v_if_le C 16 7 rfl (by decide +kernel) (fun h15 => ?_) (fun h15 => ?_)
  · have hf := ite2_t hf h15
    refine v_aload_n C 0 0 rfl 17 rfl (by decide +kernel) ?_
    obtain ⟨r17, σ16, hcr17, hf⟩ := cl2_e hf
    refine v_cV C 5 rfl (ns_kd_lt hk_a0 (by decide)) hk_a0 (by decide) [] [] (c_Tape_nextToken G l σ a0 hcr17) 25 0 tw_530 tw_527 tw_529 ts_21 tw_5 hd_Tape_nextToken rfl ⟨(Nat.le_of_ble_eq_true rfl), (Nat.le_of_ble_eq_true rfl)⟩ ⟨(Nat.le_of_ble_eq_true rfl), (Nat.le_of_ble_eq_true rfl)⟩ (Nat.le_of_ble_eq_true rfl) rfl 20 rfl (by decide +kernel) [] rfl ?_
    refine v_aload_n C 0 0 rfl 21 rfl (by decide +kernel) ?_
    refine v_iconst C (1) (1) (by decide) 22 rfl (by decide +kernel) ?_
    refine v_aload_n C 1 1 rfl 23 rfl (by decide +kernel) ?_
    obtain ⟨b18, hb18, hf⟩ := drf_e hf
    obtain ⟨hk_b18, hf⟩ := grd_e hf
    refine v_getRN C 7 0 hb18 rfl nin_7 (ns_kd_lt hk_a1 (by decide)) hk_a1 (by decide) (by decide) rfl 49 tw_127 rfl 26 rfl (by decide +kernel) ?_
    obtain ⟨r20, σ19, hcr20, hf⟩ := cl2_e hf
    refine v_cVN C 1 rfl (ns_kd_lt hk_b18 (by decide)) hk_b18 (by decide) [] [.int (1 : Int32), .ref (G.1 + a0)] (c_Ground_highest G l σ16 b18 hcr20) 73 0 tw_431 tw_595 tw_430 ts_9 tw_3 hd_Ground_highest rfl ⟨(Nat.le_of_ble_eq_true rfl), (Nat.le_of_ble_eq_true rfl)⟩ ⟨(Nat.le_of_ble_eq_true rfl), (Nat.le_of_ble_eq_true rfl)⟩ (Nat.le_of_ble_eq_true rfl) rfl 29 rfl (by decide +kernel) [.int r20, .int (1 : Int32), .ref (G.1 + a0)] rfl ?_
    obtain ⟨r22, σ21, hcr22, hf⟩ := cl2_e hf
    refine v_cS C [.int (1 : Int32), .int r20] [.ref (G.1 + a0)] (c_Math_max G l σ19 (1 : Int32) r20 hcr22) 79 2 tw_598 tw_596 tw_597 tw_18 hd_Math_max rfl ⟨(Nat.le_of_ble_eq_true rfl), (Nat.le_of_ble_eq_true rfl)⟩ ⟨(Nat.le_of_ble_eq_true rfl), (Nat.le_of_ble_eq_true rfl)⟩ (Nat.le_of_ble_eq_true rfl) rfl 32 rfl (by decide +kernel) [.int r22, .ref (G.1 + a0)] rfl ?_
    refine v_bipush C (60) (60) (by decide) 34 rfl (by decide +kernel) ?_
    obtain ⟨r24, σ23, hcr24, hf⟩ := cl2_e hf
    refine v_cV C 5 rfl (ns_kd_lt hk_a0 (by decide)) hk_a0 (by decide) [.int r22, .int (60 : Int32)] [] (c_Tape_takeNumber G l σ21 a0 r22 (60 : Int32) hcr24) 85 2 tw_602 tw_599 tw_601 ts_25 tw_5 hd_Tape_takeNumber rfl ⟨(Nat.le_of_ble_eq_true rfl), (Nat.le_of_ble_eq_true rfl)⟩ ⟨(Nat.le_of_ble_eq_true rfl), (Nat.le_of_ble_eq_true rfl)⟩ (Nat.le_of_ble_eq_true rfl) rfl 37 rfl (by decide +kernel) [.int r24] rfl ?_
    refine v_istore_n C 2 [(2, .int r24), (0, .ref (G.1 + a0)), (1, .ref (G.1 + a1))] (by decide) rfl 38 rfl (by decide +kernel) ?_
    refine v_aload_n C 0 1 rfl 39 rfl (by decide +kernel) ?_
    refine v_getI C 5 2 rfl nin_5 (ns_kd_lt hk_a0 (by decide)) hk_a0 (by decide) (by decide) rfl 19 tw_166 rfl 42 rfl (by decide +kernel) ?_
    refine v_iconst C (-1) (-1) (by decide) 43 rfl (by decide +kernel) ?_
    refine v_icmp_ne C 54 46 rfl (by decide +kernel) (fun h25 => ?_) (fun h25 => ?_)
    · have hf := ite2_f hf h25
      obtain ⟨rfl, rfl⟩ := ret_e hf
      exact v_vret C hr (by decide +kernel)
    · have hf := ite2_t hf h25
      refine v_aload_n C 1 2 rfl 47 rfl (by decide +kernel) ?_
      obtain ⟨b26, hb26, hf⟩ := drf_e hf
      obtain ⟨hk_b26, hf⟩ := grd_e hf
      refine v_getRN C 7 0 hb26 rfl nin_7 (ns_kd_lt hk_a1 (by decide)) hk_a1 (by decide) (by decide) rfl 49 tw_127 rfl 50 rfl (by decide +kernel) ?_
      refine v_iload_n C 2 0 rfl 51 rfl (by decide +kernel) ?_
      obtain ⟨σ27, hσ27, hf⟩ := bnd_e hf
      refine v_putIN C 1 0 hσ27 rfl nin_1 ny_1 nty_1 nnm_1 (ns_kd_lt hk_b26 (by decide)) hk_b26 (by decide) (by decide) rfl rfl rfl rfl 88 tw_43 rfl 54 rfl (by decide +kernel) ?_
      obtain ⟨rfl, rfl⟩ := ret_e hf
      exact v_vret C hr (by decide +kernel)
  · have hf := ite2_f hf h15
    refine v_aload_n C 0 0 rfl 8 rfl (by decide +kernel) ?_
    refine v_aload_n C 0 0 rfl 9 rfl (by decide +kernel) ?_
    refine v_getI C 5 4 rfl nin_5 (ns_kd_lt hk_a0 (by decide)) hk_a0 (by decide) (by decide) rfl 35 tw_169 rfl 12 rfl (by decide +kernel) ?_
    obtain ⟨σ28, hσ28, hf⟩ := bnd_e hf
    refine v_putI C 5 2 hσ28 rfl nin_5 ny_5 nty_5 nnm_5 (ns_kd_lt hk_a0 (by decide)) hk_a0 (by decide) (by decide) rfl rfl rfl rfl 19 tw_166 rfl 15 rfl (by decide +kernel) ?_
    obtain ⟨rfl, rfl⟩ := ret_e hf
    exact v_vret C hr (by decide +kernel)
theorem hd_Tape_readLength : (⟨"NinthStep$Tape", "readLength", "(LNinthStep$World;)V"⟩ : MethodName).cls = "NinthStep$Tape" ∧ (⟨"NinthStep$Tape", "readLength", "(LNinthStep$World;)V"⟩ : MethodName).cls ≠ "java/lang/invoke/MethodHandle" ∧ (⟨"NinthStep$Tape", "readLength", "(LNinthStep$World;)V"⟩ : MethodName).cls ≠ "java/lang/invoke/VarHandle" ∧ (parseMethodDescriptor (⟨"NinthStep$Tape", "readLength", "(LNinthStep$World;)V"⟩ : MethodName).desc).map (fun d => d.parameters.length) = some 1 := by decide +kernel
def g_Tape_readMark (σ : ns_St) (a0 : Nat) (a1 : Nat) (x2 : Int32) : Option (Unit × ns_St) := grd (ns_kd a0 = 5) <| grd (ns_kd a1 = 1) <| cl2 (g_Tape_nextToken σ a0) fun r14 σ13 => bnd (σ13.1 a0 4) fun z15 => cl2 (g_Tape_takeNumber σ13 a0 (0 : Int32) (σ13.1 a1 0)) fun r17 σ16 => ite2 ((σ16.1 a0 2) = (-1 : Int32)) (cl2 (g_Ground_forbids σ16 a1 x2 r17) fun r20 σ19 => ite2 (r20 = 0) (cl2 (g_Ground_mark σ19 a1 x2 r17 (1 : Int32)) fun r23 σ22 => some ((), σ22)) (bnd (ns_pI σ19 a0 2 z15) fun σ24 => some ((), σ24))) (some ((), σ16))
theorem c_Tape_readMark (G : ns_G) (l : Launch) (σ : ns_St) (a0 : Nat) (a1 : Nat) (x2 : Int32) {r : Unit} {σ' : ns_St} (hf : g_Tape_readMark σ a0 a1 x2 = some (r, σ')) : ns_ok G l ⟨"NinthStep$Tape", "readMark", "(LNinthStep$Ground;I)V"⟩ prog_7_method_6_code 5 none 3 63 0 0 [.ref (G.1 + a0), .ref (G.1 + a1), .int x2] ns_N σ none ns_N σ' := by
  refine v_open (by decide) (Nat.le_of_ble_eq_true rfl) rfl ?_
  intro p e s m below meth c C hr _
  have C : ns_Cx G p s m _ meth c prog_7_method_6_code "NinthStep$Tape" 5 := C
  unfold g_Tape_readMark at hf
  obtain ⟨hk_a0, hf⟩ := grd_e hf
  obtain ⟨hk_a1, hf⟩ := grd_e hf
  refine v_aload_n C 0 0 rfl 1 rfl (by decide +kernel) ?_
  obtain ⟨r14, σ13, hcr14, hf⟩ := cl2_e hf
  refine v_cV C 5 rfl (ns_kd_lt hk_a0 (by decide)) hk_a0 (by decide) [] [] (c_Tape_nextToken G l σ a0 hcr14) 25 0 tw_530 tw_527 tw_529 ts_21 tw_5 hd_Tape_nextToken rfl ⟨(Nat.le_of_ble_eq_true rfl), (Nat.le_of_ble_eq_true rfl)⟩ ⟨(Nat.le_of_ble_eq_true rfl), (Nat.le_of_ble_eq_true rfl)⟩ (Nat.le_of_ble_eq_true rfl) rfl 4 rfl (by decide +kernel) [] rfl ?_
  refine v_aload_n C 0 0 rfl 5 rfl (by decide +kernel) ?_
  refine v_getI C 5 4 rfl nin_5 (ns_kd_lt hk_a0 (by decide)) hk_a0 (by decide) (by decide) rfl 35 tw_169 rfl 8 rfl (by decide +kernel) ?_
  obtain ⟨z15, hz15, hf⟩ := bnd_e hf
  refine v_nmI hz15 ?_
  refine v_istore_n C 3 [(3, .int z15), (0, .ref (G.1 + a0)), (1, .ref (G.1 + a1)), (2, .int x2)] (by decide) rfl 9 rfl (by decide +kernel) ?_
  refine v_aload_n C 0 1 rfl 10 rfl (by decide +kernel) ?_
  refine v_iconst C (0) (0) (by decide) 11 rfl (by decide +kernel) ?_
  refine v_aload_n C 1 2 rfl 12 rfl (by decide +kernel) ?_
  refine v_getIN C 1 0 rfl nin_1 (ns_kd_lt hk_a1 (by decide)) hk_a1 (by decide) (by decide) rfl 88 tw_43 rfl 15 rfl (by decide +kernel) ?_
  obtain ⟨r17, σ16, hcr17, hf⟩ := cl2_e hf
  refine v_cV C 5 rfl (ns_kd_lt hk_a0 (by decide)) hk_a0 (by decide) [.int (0 : Int32), .int (σ13.1 a1 0)] [] (c_Tape_takeNumber G l σ13 a0 (0 : Int32) (σ13.1 a1 0) hcr17) 85 2 tw_602 tw_599 tw_601 ts_25 tw_5 hd_Tape_takeNumber rfl ⟨(Nat.le_of_ble_eq_true rfl), (Nat.le_of_ble_eq_true rfl)⟩ ⟨(Nat.le_of_ble_eq_true rfl), (Nat.le_of_ble_eq_true rfl)⟩ (Nat.le_of_ble_eq_true rfl) rfl 18 rfl (by decide +kernel) [.int r17] rfl ?_
  refine v_istore C 4 [(4, .int r17), (3, .int z15), (0, .ref (G.1 + a0)), (1, .ref (G.1 + a1)), (2, .int x2)] (by decide) rfl 20 rfl (by decide +kernel) ?_
  refine v_aload_n C 0 2 rfl 21 rfl (by decide +kernel) ?_
  refine v_getI C 5 2 rfl nin_5 (ns_kd_lt hk_a0 (by decide)) hk_a0 (by decide) (by decide) rfl 19 tw_166 rfl 24 rfl (by decide +kernel) ?_
  refine v_iconst C (-1) (-1) (by decide) 25 rfl (by decide +kernel) ?_
  refine v_icmp_eq C 29 28 rfl (by decide +kernel) (fun h18 => ?_) (fun h18 => ?_)
  · have hf := ite2_t hf h18
    refine v_aload_n C 1 3 rfl 30 rfl (by decide +kernel) ?_
    refine v_iload_n C 2 4 rfl 31 rfl (by decide +kernel) ?_
    refine v_iload C 4 0 rfl 33 rfl (by decide +kernel) ?_
    obtain ⟨r20, σ19, hcr20, hf⟩ := cl2_e hf
    refine v_cVN C 1 rfl (ns_kd_lt hk_a1 (by decide)) hk_a1 (by decide) [.int x2, .int r17] [] (c_Ground_forbids G l σ16 a1 x2 r17 hcr20) 91 2 tw_452 tw_613 tw_451 ts_11 tw_3 hd_Ground_forbids rfl ⟨(Nat.le_of_ble_eq_true rfl), (Nat.le_of_ble_eq_true rfl)⟩ ⟨(Nat.le_of_ble_eq_true rfl), (Nat.le_of_ble_eq_true rfl)⟩ (Nat.le_of_ble_eq_true rfl) rfl 36 rfl (by decide +kernel) [.int r20] rfl ?_
    refine v_if_eq C 45 39 rfl (by decide +kernel) (fun h21 => ?_) (fun h21 => ?_)
    · have hf := ite2_t hf h21
      refine v_aload_n C 1 3 rfl 46 rfl (by decide +kernel) ?_
      refine v_iload_n C 2 4 rfl 47 rfl (by decide +kernel) ?_
      refine v_iload C 4 0 rfl 49 rfl (by decide +kernel) ?_
      refine v_iconst C (1) (1) (by decide) 50 rfl (by decide +kernel) ?_
      obtain ⟨r23, σ22, hcr23, hf⟩ := cl2_e hf
      refine v_cVN C 1 rfl (ns_kd_lt hk_a1 (by decide)) hk_a1 (by decide) [.int x2, .int r17, .int (1 : Int32)] [] (c_Ground_mark G l σ19 a1 x2 r17 (1 : Int32) hcr23) 95 3 tw_464 tw_614 tw_463 ts_13 tw_3 hd_Ground_mark rfl ⟨(Nat.le_of_ble_eq_true rfl), (Nat.le_of_ble_eq_true rfl)⟩ ⟨(Nat.le_of_ble_eq_true rfl), (Nat.le_of_ble_eq_true rfl)⟩ (Nat.le_of_ble_eq_true rfl) rfl 53 rfl (by decide +kernel) [] rfl ?_
      obtain ⟨rfl, rfl⟩ := ret_e hf
      exact v_vret C hr (by decide +kernel)
    · have hf := ite2_f hf h21
      refine v_aload_n C 0 2 rfl 40 rfl (by decide +kernel) ?_
      refine v_iload_n C 3 1 rfl 41 rfl (by decide +kernel) ?_
      obtain ⟨σ24, hσ24, hf⟩ := bnd_e hf
      refine v_putI C 5 2 hσ24 rfl nin_5 ny_5 nty_5 nnm_5 (ns_kd_lt hk_a0 (by decide)) hk_a0 (by decide) (by decide) rfl rfl rfl rfl 19 tw_166 rfl 44 rfl (by decide +kernel) ?_
      obtain ⟨rfl, rfl⟩ := ret_e hf
      exact v_vret C hr (by decide +kernel)
  · have hf := ite2_f hf h18
    obtain ⟨rfl, rfl⟩ := ret_e hf
    exact v_vret C hr (by decide +kernel)
theorem hd_Tape_readMark : (⟨"NinthStep$Tape", "readMark", "(LNinthStep$Ground;I)V"⟩ : MethodName).cls = "NinthStep$Tape" ∧ (⟨"NinthStep$Tape", "readMark", "(LNinthStep$Ground;I)V"⟩ : MethodName).cls ≠ "java/lang/invoke/MethodHandle" ∧ (⟨"NinthStep$Tape", "readMark", "(LNinthStep$Ground;I)V"⟩ : MethodName).cls ≠ "java/lang/invoke/VarHandle" ∧ (parseMethodDescriptor (⟨"NinthStep$Tape", "readMark", "(LNinthStep$Ground;I)V"⟩ : MethodName).desc).map (fun d => d.parameters.length) = some 2 := by decide +kernel
