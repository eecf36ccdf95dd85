def g_N_status (σ : ns_St) (a0 : Nat) (x1 : Int32) : Option (Int32 × ns_St) := grd (ns_kd a0 = 8) <| ite2 (x1 = 0) (drf (σ.2.2 a0 0) fun b51 => grd (ns_kd b51 = 7) <| drf (σ.2.2 b51 0) fun b52 => grd (ns_kd b52 = 1) <| some ((σ.1 b52 0), σ)) (ite2 (x1 = 1) (drf (σ.2.2 a0 0) fun b54 => grd (ns_kd b54 = 7) <| some ((σ.1 b54 2), σ)) (ite2 (x1 = 2) (drf (σ.2.2 a0 0) fun b56 => grd (ns_kd b56 = 7) <| drf (σ.2.2 b56 0) fun b57 => grd (ns_kd b57 = 1) <| cl2 (g_Ground_allOf σ b57 (x1 - (2 : Int32))) fun r59 σ58 => cl2 (g_Long_bitCount σ58 r59) fun r61 σ60 => some (r61, σ60)) (ite2 (x1 = 3) (drf (σ.2.2 a0 0) fun b63 => grd (ns_kd b63 = 7) <| drf (σ.2.2 b63 0) fun b64 => grd (ns_kd b64 = 1) <| cl2 (g_Ground_allOf σ b64 (x1 - (2 : Int32))) fun r66 σ65 => cl2 (g_Long_bitCount σ65 r66) fun r68 σ67 => some (r68, σ67)) (ite2 (x1 = 4) (drf (σ.2.2 a0 0) fun b70 => grd (ns_kd b70 = 7) <| drf (σ.2.2 b70 0) fun b71 => grd (ns_kd b71 = 1) <| cl2 (g_Ground_allOf σ b71 (x1 - (2 : Int32))) fun r73 σ72 => cl2 (g_Long_bitCount σ72 r73) fun r75 σ74 => some (r75, σ74)) (ite2 (x1 = 5) (drf (σ.2.2 a0 0) fun b77 => grd (ns_kd b77 = 7) <| drf (σ.2.2 b77 0) fun b78 => grd (ns_kd b78 = 1) <| cl2 (g_Ground_allOf σ b78 (x1 - (2 : Int32))) fun r80 σ79 => cl2 (g_Long_bitCount σ79 r80) fun r82 σ81 => some (r82, σ81)) (ite2 (x1 = 6) (drf (σ.2.2 a0 0) fun b84 => grd (ns_kd b84 = 7) <| some ((σ.1 b84 3), σ)) (ite2 (x1 = 7) (drf (σ.2.2 a0 0) fun b86 => grd (ns_kd b86 = 7) <| some ((σ.1 b86 4), σ)) (ite2 (x1 = 8) (drf (σ.2.2 a0 4) fun b88 => grd (ns_kd b88 = 5) <| some ((σ.1 b88 1), σ)) (ite2 (x1 = 9) (drf (σ.2.2 a0 0) fun b90 => grd (ns_kd b90 = 7) <| some ((σ.1 b90 5), σ)) (ite2 (x1 = 10) (cl2 (g_N_shelvesInUse σ a0) fun r93 σ92 => some (r93, σ92)) (cl2 (g_N_isWithin σ x1 (12 : Int32) (16 : Int32)) fun r95 σ94 => ite2 (r95 = 0) (some ((-1 : Int32), σ94)) (drf (σ94.2.2 a0 10) fun b97 => grd (ns_kd b97 = 10) <| grd (ns_in (x1 - (12 : Int32)) (ns_ln b97)) <| some ((σ94.1 b97 (ns_ix (x1 - (12 : Int32)))), σ94)))))))))))))
theorem c_N_status (G : ns_G) (l : Launch) (σ : ns_St) (a0 : Nat) (x1 : Int32) {r : Int32} {σ' : ns_St} (hf : g_N_status σ a0 x1 = some (r, σ')) : ns_ok G l ⟨"NinthStep", "status", "(I)I"⟩ prog_1_method_46_code 2 (some .int) 1 22 0 0 [.ref (G.1 + a0), .int x1] ns_N σ (some (.int r)) ns_N σ' := by
  refine v_open (by decide) (Nat.le_of_ble_eq_true rfl) rfl ?_
  intro p e s m below meth c C hr _
  have C : ns_Cx G p s m _ meth c prog_1_method_46_code "NinthStep" 2 := C
  unfold g_N_status at hf
  obtain ⟨hk_a0, hf⟩ := grd_e hf
  refine v_iload_n C 1 1 rfl 1 rfl (by decide +kernel) ?_
  by_cases h50 : x1 = 0
  · have hf := ite2_t hf h50
    refine v_tswI C (132) (0) (10) #[(59), (70), (78), (78), (78), (78), (95), (103), (111), (119), (127)] 59 60 (0) h50 (by decide) (by decide) (59) (by decide) (by decide) (by decide +kernel) ?_
    refine v_aload_n C 0 0 rfl 61 rfl (by decide +kernel) ?_
    obtain ⟨b51, hb51, hf⟩ := drf_e hf
    obtain ⟨hk_b51, hf⟩ := grd_e hf
    refine v_getR C 8 0 hb51 rfl nin_8 (ns_kd_lt hk_a0 (by decide)) hk_a0 (by decide) (by decide) rfl 12 tw_287 rfl 64 rfl (by decide +kernel) ?_
    obtain ⟨b52, hb52, hf⟩ := drf_e hf
    obtain ⟨hk_b52, hf⟩ := grd_e hf
    refine v_getRN C 7 0 hb52 rfl nin_7 (ns_kd_lt hk_b51 (by decide)) hk_b51 (by decide) (by decide) rfl 138 tw_128 rfl 67 rfl (by decide +kernel) ?_
    refine v_getIN C 1 0 rfl nin_1 (ns_kd_lt hk_b52 (by decide)) hk_b52 (by decide) (by decide) rfl 147 tw_45 rfl 70 rfl (by decide +kernel) ?_
    obtain ⟨rfl, rfl⟩ := ret_e hf
    exact v_iret C hr (by decide +kernel)
  · have hf := ite2_f hf h50
    by_cases h53 : x1 = 1
    · have hf := ite2_t hf h53
      refine v_tswI C (132) (0) (10) #[(59), (70), (78), (78), (78), (78), (95), (103), (111), (119), (127)] 59 71 (1) h53 (by decide) (by decide) (70) (by decide) (by decide) (by decide +kernel) ?_
      refine v_aload_n C 0 0 rfl 72 rfl (by decide +kernel) ?_
      obtain ⟨b54, hb54, hf⟩ := drf_e hf
      obtain ⟨hk_b54, hf⟩ := grd_e hf
      refine v_getR C 8 0 hb54 rfl nin_8 (ns_kd_lt hk_a0 (by decide)) hk_a0 (by decide) (by decide) rfl 12 tw_287 rfl 75 rfl (by decide +kernel) ?_
      refine v_getIN C 7 2 rfl nin_7 (ns_kd_lt hk_b54 (by decide)) hk_b54 (by decide) (by decide) rfl 135 tw_135 rfl 78 rfl (by decide +kernel) ?_
      obtain ⟨rfl, rfl⟩ := ret_e hf
      exact v_iret C hr (by decide +kernel)
    · have hf := ite2_f hf h53
      by_cases h55 : x1 = 2
      · have hf := ite2_t hf h55
        refine v_tswI C (132) (0) (10) #[(59), (70), (78), (78), (78), (78), (95), (103), (111), (119), (127)] 59 79 (2) h55 (by decide) (by decide) (78) (by decide) (by decide) (by decide +kernel) ?_
        refine v_aload_n C 0 0 rfl 80 rfl (by decide +kernel) ?_
        obtain ⟨b56, hb56, hf⟩ := drf_e hf
        obtain ⟨hk_b56, hf⟩ := grd_e hf
        refine v_getR C 8 0 hb56 rfl nin_8 (ns_kd_lt hk_a0 (by decide)) hk_a0 (by decide) (by decide) rfl 12 tw_287 rfl 83 rfl (by decide +kernel) ?_
        obtain ⟨b57, hb57, hf⟩ := drf_e hf
        obtain ⟨hk_b57, hf⟩ := grd_e hf
        refine v_getRN C 7 0 hb57 rfl nin_7 (ns_kd_lt hk_b56 (by decide)) hk_b56 (by decide) (by decide) rfl 138 tw_128 rfl 86 rfl (by decide +kernel) ?_
        refine v_iload_n C 1 1 rfl 87 rfl (by decide +kernel) ?_
        refine v_iconst C (2) (2) (by decide) 88 rfl (by decide +kernel) ?_
        refine v_isub C 89 rfl (by decide +kernel) ?_
        obtain ⟨r59, σ58, hcr59, hf⟩ := cl2_e hf
        refine v_cVN C 1 rfl (ns_kd_lt hk_b57 (by decide)) hk_b57 (by decide) [.int (x1 - (2 : Int32))] [] (c_Ground_allOf G l σ b57 (x1 - (2 : Int32)) hcr59) 157 1 tw_459 tw_456 tw_458 ts_12 tw_3 hd_Ground_allOf rfl ⟨(Nat.le_of_ble_eq_true rfl), (Nat.le_of_ble_eq_true rfl)⟩ ⟨(Nat.le_of_ble_eq_true rfl), (Nat.le_of_ble_eq_true rfl)⟩ (Nat.le_of_ble_eq_true rfl) rfl 92 rfl (by decide +kernel) [.long r59] rfl ?_
        obtain ⟨r61, σ60, hcr61, hf⟩ := cl2_e hf
        refine v_cS C [.long r59] [] (c_Long_bitCount G l σ58 r59 hcr61) 213 1 tw_410 tw_408 tw_409 tw_12 hd_Long_bitCount rfl ⟨(Nat.le_of_ble_eq_true rfl), (Nat.le_of_ble_eq_true rfl)⟩ ⟨(Nat.le_of_ble_eq_true rfl), (Nat.le_of_ble_eq_true rfl)⟩ (Nat.le_of_ble_eq_true rfl) rfl 95 rfl (by decide +kernel) [.int r61] rfl ?_
        obtain ⟨rfl, rfl⟩ := ret_e hf
        exact v_iret C hr (by decide +kernel)
      · have hf := ite2_f hf h55
        by_cases h62 : x1 = 3
        · have hf := ite2_t hf h62
          refine v_tswI C (132) (0) (10) #[(59), (70), (78), (78), (78), (78), (95), (103), (111), (119), (127)] 59 79 (3) h62 (by decide) (by decide) (78) (by decide) (by decide) (by decide +kernel) ?_
          refine v_aload_n C 0 0 rfl 80 rfl (by decide +kernel) ?_
          obtain ⟨b63, hb63, hf⟩ := drf_e hf
          obtain ⟨hk_b63, hf⟩ := grd_e hf
          refine v_getR C 8 0 hb63 rfl nin_8 (ns_kd_lt hk_a0 (by decide)) hk_a0 (by decide) (by decide) rfl 12 tw_287 rfl 83 rfl (by decide +kernel) ?_
          obtain ⟨b64, hb64, hf⟩ := drf_e hf
          obtain ⟨hk_b64, hf⟩ := grd_e hf
          refine v_getRN C 7 0 hb64 rfl nin_7 (ns_kd_lt hk_b63 (by decide)) hk_b63 (by decide) (by decide) rfl 138 tw_128 rfl 86 rfl (by decide +kernel) ?_
          refine v_iload_n C 1 1 rfl 87 rfl (by decide +kernel) ?_
          refine v_iconst C (2) (2) (by decide) 88 rfl (by decide +kernel) ?_
          refine v_isub C 89 rfl (by decide +kernel) ?_
          obtain ⟨r66, σ65, hcr66, hf⟩ := cl2_e hf
          refine v_cVN C 1 rfl (ns_kd_lt hk_b64 (by decide)) hk_b64 (by decide) [.int (x1 - (2 : Int32))] [] (c_Ground_allOf G l σ b64 (x1 - (2 : Int32)) hcr66) 157 1 tw_459 tw_456 tw_458 ts_12 tw_3 hd_Ground_allOf rfl ⟨(Nat.le_of_ble_eq_true rfl), (Nat.le_of_ble_eq_true rfl)⟩ ⟨(Nat.le_of_ble_eq_true rfl), (Nat.le_of_ble_eq_true rfl)⟩ (Nat.le_of_ble_eq_true rfl) rfl 92 rfl (by decide +kernel) [.long r66] rfl ?_
          obtain ⟨r68, σ67, hcr68, hf⟩ := cl2_e hf
          refine v_cS C [.long r66] [] (c_Long_bitCount G l σ65 r66 hcr68) 213 1 tw_410 tw_408 tw_409 tw_12 hd_Long_bitCount rfl ⟨(Nat.le_of_ble_eq_true rfl), (Nat.le_of_ble_eq_true rfl)⟩ ⟨(Nat.le_of_ble_eq_true rfl), (Nat.le_of_ble_eq_true rfl)⟩ (Nat.le_of_ble_eq_true rfl) rfl 95 rfl (by decide +kernel) [.int r68] rfl ?_
          obtain ⟨rfl, rfl⟩ := ret_e hf
          exact v_iret C hr (by decide +kernel)
        · have hf := ite2_f hf h62
          by_cases h69 : x1 = 4
          · have hf := ite2_t hf h69
            refine v_tswI C (132) (0) (10) #[(59), (70), (78), (78), (78), (78), (95), (103), (111), (119), (127)] 59 79 (4) h69 (by decide) (by decide) (78) (by decide) (by decide) (by decide +kernel) ?_
            refine v_aload_n C 0 0 rfl 80 rfl (by decide +kernel) ?_
            obtain ⟨b70, hb70, hf⟩ := drf_e hf
            obtain ⟨hk_b70, hf⟩ := grd_e hf
            refine v_getR C 8 0 hb70 rfl nin_8 (ns_kd_lt hk_a0 (by decide)) hk_a0 (by decide) (by decide) rfl 12 tw_287 rfl 83 rfl (by decide +kernel) ?_
            obtain ⟨b71, hb71, hf⟩ := drf_e hf
            obtain ⟨hk_b71, hf⟩ := grd_e hf
            refine v_getRN C 7 0 hb71 rfl nin_7 (ns_kd_lt hk_b70 (by decide)) hk_b70 (by decide) (by decide) rfl 138 tw_128 rfl 86 rfl (by decide +kernel) ?_
            refine v_iload_n C 1 1 rfl 87 rfl (by decide +kernel) ?_
            refine v_iconst C (2) (2) (by decide) 88 rfl (by decide +kernel) ?_
            refine v_isub C 89 rfl (by decide +kernel) ?_
            obtain ⟨r73, σ72, hcr73, hf⟩ := cl2_e hf
            refine v_cVN C 1 rfl (ns_kd_lt hk_b71 (by decide)) hk_b71 (by decide) [.int (x1 - (2 : Int32))] [] (c_Ground_allOf G l σ b71 (x1 - (2 : Int32)) hcr73) 157 1 tw_459 tw_456 tw_458 ts_12 tw_3 hd_Ground_allOf rfl ⟨(Nat.le_of_ble_eq_true rfl), (Nat.le_of_ble_eq_true rfl)⟩ ⟨(Nat.le_of_ble_eq_true rfl), (Nat.le_of_ble_eq_true rfl)⟩ (Nat.le_of_ble_eq_true rfl) rfl 92 rfl (by decide +kernel) [.long r73] rfl ?_
            obtain ⟨r75, σ74, hcr75, hf⟩ := cl2_e hf
            refine v_cS C [.long r73] [] (c_Long_bitCount G l σ72 r73 hcr75) 213 1 tw_410 tw_408 tw_409 tw_12 hd_Long_bitCount rfl ⟨(Nat.le_of_ble_eq_true rfl), (Nat.le_of_ble_eq_true rfl)⟩ ⟨(Nat.le_of_ble_eq_true rfl), (Nat.le_of_ble_eq_true rfl)⟩ (Nat.le_of_ble_eq_true rfl) rfl 95 rfl (by decide +kernel) [.int r75] rfl ?_
            obtain ⟨rfl, rfl⟩ := ret_e hf
            exact v_iret C hr (by decide +kernel)
          · have hf := ite2_f hf h69
            by_cases h76 : x1 = 5
            · have hf := ite2_t hf h76
              refine v_tswI C (132) (0) (10) #[(59), (70), (78), (78), (78), (78), (95), (103), (111), (119), (127)] 59 79 (5) h76 (by decide) (by decide) (78) (by decide) (by decide) (by decide +kernel) ?_
              refine v_aload_n C 0 0 rfl 80 rfl (by decide +kernel) ?_
              obtain ⟨b77, hb77, hf⟩ := drf_e hf
              obtain ⟨hk_b77, hf⟩ := grd_e hf
              refine v_getR C 8 0 hb77 rfl nin_8 (ns_kd_lt hk_a0 (by decide)) hk_a0 (by decide) (by decide) rfl 12 tw_287 rfl 83 rfl (by decide +kernel) ?_
              obtain ⟨b78, hb78, hf⟩ := drf_e hf
              obtain ⟨hk_b78, hf⟩ := grd_e hf
              refine v_getRN C 7 0 hb78 rfl nin_7 (ns_kd_lt hk_b77 (by decide)) hk_b77 (by decide) (by decide) rfl 138 tw_128 rfl 86 rfl (by decide +kernel) ?_
              refine v_iload_n C 1 1 rfl 87 rfl (by decide +kernel) ?_
              refine v_iconst C (2) (2) (by decide) 88 rfl (by decide +kernel) ?_
              refine v_isub C 89 rfl (by decide +kernel) ?_
              obtain ⟨r80, σ79, hcr80, hf⟩ := cl2_e hf
              refine v_cVN C 1 rfl (ns_kd_lt hk_b78 (by decide)) hk_b78 (by decide) [.int (x1 - (2 : Int32))] [] (c_Ground_allOf G l σ b78 (x1 - (2 : Int32)) hcr80) 157 1 tw_459 tw_456 tw_458 ts_12 tw_3 hd_Ground_allOf rfl ⟨(Nat.le_of_ble_eq_true rfl), (Nat.le_of_ble_eq_true rfl)⟩ ⟨(Nat.le_of_ble_eq_true rfl), (Nat.le_of_ble_eq_true rfl)⟩ (Nat.le_of_ble_eq_true rfl) rfl 92 rfl (by decide +kernel) [.long r80] rfl ?_
              obtain ⟨r82, σ81, hcr82, hf⟩ := cl2_e hf
              refine v_cS C [.long r80] [] (c_Long_bitCount G l σ79 r80 hcr82) 213 1 tw_410 tw_408 tw_409 tw_12 hd_Long_bitCount rfl ⟨(Nat.le_of_ble_eq_true rfl), (Nat.le_of_ble_eq_true rfl)⟩ ⟨(Nat.le_of_ble_eq_true rfl), (Nat.le_of_ble_eq_true rfl)⟩ (Nat.le_of_ble_eq_true rfl) rfl 95 rfl (by decide +kernel) [.int r82] rfl ?_
              obtain ⟨rfl, rfl⟩ := ret_e hf
              exact v_iret C hr (by decide +kernel)
            · have hf := ite2_f hf h76
              by_cases h83 : x1 = 6
              · have hf := ite2_t hf h83
                refine v_tswI C (132) (0) (10) #[(59), (70), (78), (78), (78), (78), (95), (103), (111), (119), (127)] 59 96 (6) h83 (by decide) (by decide) (95) (by decide) (by decide) (by decide +kernel) ?_
                refine v_aload_n C 0 0 rfl 97 rfl (by decide +kernel) ?_
                obtain ⟨b84, hb84, hf⟩ := drf_e hf
                obtain ⟨hk_b84, hf⟩ := grd_e hf
                refine v_getR C 8 0 hb84 rfl nin_8 (ns_kd_lt hk_a0 (by decide)) hk_a0 (by decide) (by decide) rfl 12 tw_287 rfl 100 rfl (by decide +kernel) ?_
                refine v_getIN C 7 3 rfl nin_7 (ns_kd_lt hk_b84 (by decide)) hk_b84 (by decide) (by decide) rfl 185 tw_137 rfl 103 rfl (by decide +kernel) ?_
                obtain ⟨rfl, rfl⟩ := ret_e hf
                exact v_iret C hr (by decide +kernel)
              · have hf := ite2_f hf h83
                by_cases h85 : x1 = 7
                · have hf := ite2_t hf h85
                  refine v_tswI C (132) (0) (10) #[(59), (70), (78), (78), (78), (78), (95), (103), (111), (119), (127)] 59 104 (7) h85 (by decide) (by decide) (103) (by decide) (by decide) (by decide +kernel) ?_
                  refine v_aload_n C 0 0 rfl 105 rfl (by decide +kernel) ?_
                  obtain ⟨b86, hb86, hf⟩ := drf_e hf
                  obtain ⟨hk_b86, hf⟩ := grd_e hf
                  refine v_getR C 8 0 hb86 rfl nin_8 (ns_kd_lt hk_a0 (by decide)) hk_a0 (by decide) (by decide) rfl 12 tw_287 rfl 108 rfl (by decide +kernel) ?_
                  refine v_getIN C 7 4 rfl nin_7 (ns_kd_lt hk_b86 (by decide)) hk_b86 (by decide) (by decide) rfl 323 tw_139 rfl 111 rfl (by decide +kernel) ?_
                  obtain ⟨rfl, rfl⟩ := ret_e hf
                  exact v_iret C hr (by decide +kernel)
                · have hf := ite2_f hf h85
                  by_cases h87 : x1 = 8
                  · have hf := ite2_t hf h87
                    refine v_tswI C (132) (0) (10) #[(59), (70), (78), (78), (78), (78), (95), (103), (111), (119), (127)] 59 112 (8) h87 (by decide) (by decide) (111) (by decide) (by decide) (by decide +kernel) ?_
                    refine v_aload_n C 0 0 rfl 113 rfl (by decide +kernel) ?_
                    obtain ⟨b88, hb88, hf⟩ := drf_e hf
                    obtain ⟨hk_b88, hf⟩ := grd_e hf
                    refine v_getR C 8 4 hb88 rfl nin_8 (ns_kd_lt hk_a0 (by decide)) hk_a0 (by decide) (by decide) rfl 31 tw_291 rfl 116 rfl (by decide +kernel) ?_
                    refine v_getIN C 5 1 rfl nin_5 (ns_kd_lt hk_b88 (by decide)) hk_b88 (by decide) (by decide) rfl 191 tw_165 rfl 119 rfl (by decide +kernel) ?_
                    obtain ⟨rfl, rfl⟩ := ret_e hf
                    exact v_iret C hr (by decide +kernel)
                  · have hf := ite2_f hf h87
                    by_cases h89 : x1 = 9
                    · have hf := ite2_t hf h89
                      refine v_tswI C (132) (0) (10) #[(59), (70), (78), (78), (78), (78), (95), (103), (111), (119), (127)] 59 120 (9) h89 (by decide) (by decide) (119) (by decide) (by decide) (by decide +kernel) ?_
                      refine v_aload_n C 0 0 rfl 121 rfl (by decide +kernel) ?_
                      obtain ⟨b90, hb90, hf⟩ := drf_e hf
                      obtain ⟨hk_b90, hf⟩ := grd_e hf
                      refine v_getR C 8 0 hb90 rfl nin_8 (ns_kd_lt hk_a0 (by decide)) hk_a0 (by decide) (by decide) rfl 12 tw_287 rfl 124 rfl (by decide +kernel) ?_
                      refine v_getIN C 7 5 rfl nin_7 (ns_kd_lt hk_b90 (by decide)) hk_b90 (by decide) (by decide) rfl 330 tw_141 rfl 127 rfl (by decide +kernel) ?_
                      obtain ⟨rfl, rfl⟩ := ret_e hf
                      exact v_iret C hr (by decide +kernel)
                    · have hf := ite2_f hf h89
                      by_cases h91 : x1 = 10
                      · have hf := ite2_t hf h91
                        refine v_tswI C (132) (0) (10) #[(59), (70), (78), (78), (78), (78), (95), (103), (111), (119), (127)] 59 128 (10) h91 (by decide) (by decide) (127) (by decide) (by decide) (by decide +kernel) ?_
                        refine v_aload_n C 0 0 rfl 129 rfl (by decide +kernel) ?_
                        obtain ⟨r93, σ92, hcr93, hf⟩ := cl2_e hf
                        refine v_cV C 8 rfl (ns_kd_lt hk_a0 (by decide)) hk_a0 (by decide) [] [] (c_N_shelvesInUse G l σ a0 hcr93) 337 0 tw_968 tw_965 tw_967 ts_72 tw_1 hd_N_shelvesInUse rfl ⟨(Nat.le_of_ble_eq_true rfl), (Nat.le_of_ble_eq_true rfl)⟩ ⟨(Nat.le_of_ble_eq_true rfl), (Nat.le_of_ble_eq_true rfl)⟩ (Nat.le_of_ble_eq_true rfl) rfl 132 rfl (by decide +kernel) [.int r93] rfl ?_
                        obtain ⟨rfl, rfl⟩ := ret_e hf
                        exact v_iret C hr (by decide +kernel)
                      · have hf := ite2_f hf h91
                        refine v_tswO C (132) (0) (10) #[(59), (70), (78), (78), (78), (78), (95), (103), (111), (119), (127)] 59 133 (ns_out x1 (0) (10) (fun k h1 h2 => by
                          have h3 : k = 0 ∨ k = 1 ∨ k = 2 ∨ k = 3 ∨ k = 4 ∨ k = 5 ∨ k = 6 ∨ k = 7 ∨ k = 8 ∨ k = 9 ∨ k = 10 := by omega
                          rcases h3 with rfl | rfl | rfl | rfl | rfl | rfl | rfl | rfl | rfl | rfl | rfl
                          · exact h50
                          · exact h53
                          · exact h55
                          · exact h62
                          · exact h69
                          · exact h76
                          · exact h83
                          · exact h85
                          · exact h87
                          · exact h89
                          · exact h91)) (by decide) (by decide +kernel) ?_
                        refine v_iload_n C 1 1 rfl 134 rfl (by decide +kernel) ?_
                        refine v_bipush C (12) (12) (by decide) 136 rfl (by decide +kernel) ?_
                        refine v_bipush C (16) (16) (by decide) 138 rfl (by decide +kernel) ?_
                        obtain ⟨r95, σ94, hcr95, hf⟩ := cl2_e hf
                        refine v_cS C [.int x1, .int (12 : Int32), .int (16 : Int32)] [] (c_N_isWithin G l σ x1 (12 : Int32) (16 : Int32) hcr95) 75 3 tw_334 tw_332 tw_333 tw_1 hd_N_isWithin rfl ⟨(Nat.le_of_ble_eq_true rfl), (Nat.le_of_ble_eq_true rfl)⟩ ⟨(Nat.le_of_ble_eq_true rfl), (Nat.le_of_ble_eq_true rfl)⟩ (Nat.le_of_ble_eq_true rfl) rfl 141 rfl (by decide +kernel) [.int r95] rfl ?_
                        refine v_if_eq C 156 144 rfl (by decide +kernel) (fun h96 => ?_) (fun h96 => ?_)
                        · have hf := ite2_t hf h96
                          refine v_iconst C (-1) (-1) (by decide) 157 rfl (by decide +kernel) ?_
                          obtain ⟨rfl, rfl⟩ := ret_e hf
                          exact v_iret C hr (by decide +kernel)
                        · have hf := ite2_f hf h96
                          refine v_aload_n C 0 0 rfl 145 rfl (by decide +kernel) ?_
                          obtain ⟨b97, hb97, hf⟩ := drf_e hf
                          obtain ⟨hk_b97, hf⟩ := grd_e hf
                          refine v_getR C 8 10 hb97 rfl nin_8 (ns_kd_lt hk_a0 (by decide)) hk_a0 (by decide) (by decide) rfl 67 tw_297 rfl 148 rfl (by decide +kernel) ?_
                          refine v_iload_n C 1 1 rfl 149 rfl (by decide +kernel) ?_
                          refine v_bipush C (12) (12) (by decide) 151 rfl (by decide +kernel) ?_
                          refine v_isub C 152 rfl (by decide +kernel) ?_
                          obtain ⟨hi98, hf⟩ := grd_e hf
                          refine v_iald C (ns_kd_lt hk_b97 (by decide)) hk_b97 hi98 153 rfl (by decide +kernel) ?_
                          refine v_goto C 157 (by decide +kernel) ?_
                          obtain ⟨rfl, rfl⟩ := ret_e hf
                          exact v_iret C hr (by decide +kernel)
theorem hd_N_status : (⟨"NinthStep", "status", "(I)I"⟩ : MethodName).cls = "NinthStep" ∧ (⟨"NinthStep", "status", "(I)I"⟩ : MethodName).cls ≠ "java/lang/invoke/MethodHandle" ∧ (⟨"NinthStep", "status", "(I)I"⟩ : MethodName).cls ≠ "java/lang/invoke/VarHandle" ∧ (parseMethodDescriptor (⟨"NinthStep", "status", "(I)I"⟩ : MethodName).desc).map (fun d => d.parameters.length) = some 1 := by decide +kernel
def g_M_within (σ : ns_St) (x0 : Int32) (x1 : Int32) (x2 : Int32) : Option (Int32 × ns_St) := ite2 (x0 < x1) (some ((0 : Int32), σ)) (ite2 (x2 < x0) (some ((0 : Int32), σ)) (some ((1 : Int32), σ)))
theorem c_M_within (G : ns_G) (l : Launch) (σ : ns_St) (x0 : Int32) (x1 : Int32) (x2 : Int32) {r : Int32} {σ' : ns_St} (hf : g_M_within σ x0 x1 x2 = some (r, σ')) : ns_ok G l ⟨"NinthStepModel", "within", "(III)Z"⟩ prog_11_method_3_code 3 (some .boolean) 0 0 0 0 [.int x0, .int x1, .int x2] ns_N σ (some (.int r)) ns_N σ' := by
  refine v_open (by decide) (Nat.le_of_ble_eq_true rfl) rfl ?_
  intro p e s m below meth c C hr _
  have C : ns_Cx G p s m _ meth c prog_11_method_3_code "NinthStepModel" 3 := C
  unfold g_M_within at hf
  refine v_iload_n C 0 0 rfl 1 rfl (by decide +kernel) ?_
  refine v_iload_n C 1 1 rfl 2 rfl (by decide +kernel) ?_
  refine v_icmp_lt C 14 5 rfl (by decide +kernel) (fun h3 => ?_) (fun h3 => ?_)
  · have hf := ite2_t hf h3
    refine v_iconst C (0) (0) (by decide) 15 rfl (by decide +kernel) ?_
    obtain ⟨rfl, rfl⟩ := ret_e hf
    exact v_zret C hr rfl (by decide +kernel)
  · have hf := ite2_f hf h3
    refine v_iload_n C 0 0 rfl 6 rfl (by decide +kernel) ?_
    refine v_iload_n C 2 2 rfl 7 rfl (by decide +kernel) ?_
    refine v_icmp_gt C 14 10 rfl (by decide +kernel) (fun h4 => ?_) (fun h4 => ?_)
    · have hf := ite2_t hf h4
      refine v_iconst C (0) (0) (by decide) 15 rfl (by decide +kernel) ?_
      obtain ⟨rfl, rfl⟩ := ret_e hf
      exact v_zret C hr rfl (by decide +kernel)
    · have hf := ite2_f hf h4
      refine v_iconst C (1) (1) (by decide) 11 rfl (by decide +kernel) ?_
      refine v_goto C 15 (by decide +kernel) ?_
      obtain ⟨rfl, rfl⟩ := ret_e hf
      exact v_zret C hr rfl (by decide +kernel)
theorem hd_M_within : (⟨"NinthStepModel", "within", "(III)Z"⟩ : MethodName).cls ≠ "java/lang/invoke/MethodHandle" ∧ (⟨"NinthStepModel", "within", "(III)Z"⟩ : MethodName).cls ≠ "java/lang/invoke/VarHandle" ∧ (parseMethodDescriptor (⟨"NinthStepModel", "within", "(III)Z"⟩ : MethodName).desc).map (fun d => d.parameters.length) = some 3 := by decide +kernel
def g_M_no (σ : ns_St) (a0 : Nat) (x1 : Int32) : Option (Int32 × ns_St) := grd (ns_kd a0 = 9) <| drf (σ.2.2 a0 21) fun b6 => grd (ns_kd b6 = 10) <| bnd (-x1) fun z7 => grd (ns_in z7 (ns_ln b6)) <| grd (ns_in z7 (ns_ln b6)) <| bnd (ns_pI σ b6 (ns_ix z7) ((σ.1 b6 (ns_ix z7)) + (1 : Int32))) fun σ10 => some (x1, σ10)
theorem c_M_no (G : ns_G) (l : Launch) (σ : ns_St) (a0 : Nat) (x1 : Int32) {r : Int32} {σ' : ns_St} (hf : g_M_no σ a0 x1 = some (r, σ')) : ns_ok G l ⟨"NinthStepModel", "no", "(I)I"⟩ prog_11_method_2_code 2 (some .int) 0 0 0 0 [.ref (G.1 + a0), .int x1] ns_N σ (some (.int r)) ns_N σ' := by
  refine v_open (by decide) (Nat.le_of_ble_eq_true rfl) rfl ?_
  intro p e s m below meth c C hr _
  have C : ns_Cx G p s m _ meth c prog_11_method_2_code "NinthStepModel" 2 := C
  unfold g_M_no at hf
  obtain ⟨hk_a0, hf⟩ := grd_e hf
  refine v_aload_n C 0 0 rfl 1 rfl (by decide +kernel) ?_
  obtain ⟨b6, hb6, hf⟩ := drf_e hf
  obtain ⟨hk_b6, hf⟩ := grd_e hf
  refine v_getR C 9 21 hb6 rfl nin_9 (ns_kd_lt hk_a0 (by decide)) hk_a0 (by decide) (by decide) rfl 44 tw_996 rfl 4 rfl (by decide +kernel) ?_
  refine v_iload_n C 1 1 rfl 5 rfl (by decide +kernel) ?_
  refine v_ineg C 6 rfl (by decide +kernel) ?_
  obtain ⟨z7, hz7, hf⟩ := bnd_e hf
  refine v_nmI hz7 ?_
  refine v_dup2_11 C rfl rfl 7 rfl (by decide +kernel) ?_
  obtain ⟨hi8, hf⟩ := grd_e hf
  refine v_iald C (ns_kd_lt hk_b6 (by decide)) hk_b6 hi8 8 rfl (by decide +kernel) ?_
  refine v_iconst C (1) (1) (by decide) 9 rfl (by decide +kernel) ?_
  refine v_iadd C 10 rfl (by decide +kernel) ?_
  obtain ⟨hi9, hf⟩ := grd_e hf
  obtain ⟨σ10, hσ10, hf⟩ := bnd_e hf
  refine v_iast C hσ10 (ns_kd_lt hk_b6 (by decide)) hk_b6 hi9 11 rfl (by decide +kernel) ?_
  refine v_iload_n C 1 1 rfl 12 rfl (by decide +kernel) ?_
  obtain ⟨rfl, rfl⟩ := ret_e hf
  exact v_iret C hr (by decide +kernel)
theorem hd_M_no : (⟨"NinthStepModel", "no", "(I)I"⟩ : MethodName).cls = "NinthStepModel" ∧ (⟨"NinthStepModel", "no", "(I)I"⟩ : MethodName).cls ≠ "java/lang/invoke/MethodHandle" ∧ (⟨"NinthStepModel", "no", "(I)I"⟩ : MethodName).cls ≠ "java/lang/invoke/VarHandle" ∧ (parseMethodDescriptor (⟨"NinthStepModel", "no", "(I)I"⟩ : MethodName).desc).map (fun d => d.parameters.length) = some 1 := by decide +kernel
def g_M_row_53  : Nat → ns_St → Nat → Int32 → Int32 → Option (Int32 × ns_St)
  | 0, _, _, _, _ => none
  | f + 1, σ, a0, x1, x4 => ite2 ((40 : Int32) ≤ x4) (some ((1 : Int32), σ)) (drf (σ.2.2 a0 2) fun b28 => grd (ns_kd b28 = 11) <| grd (ns_in (((40 : Int32) * x1) + x4) (ns_ln b28)) <| bnd (ns_pJ σ b28 (ns_ix (((40 : Int32) * x1) + x4)) (0 : Int64)) fun σ30 => bnd (x4 + 1) fun z31 => (g_M_row_53 f) σ30 a0 x1 z31)
def g_M_row (σ : ns_St) (a0 : Nat) (x1 : Int32) (x2 : Int32) (x3 : Int32) : Option (Int32 × ns_St) := grd (ns_kd a0 = 9) <| cl2 (g_M_within σ x1 (0 : Int32) (7 : Int32)) fun r33 σ32 => ite2 (r33 = 0) (cl2 (g_M_no σ32 a0 (-2 : Int32)) fun r36 σ35 => some (r36, σ35)) (cl2 (g_M_within σ32 x2 (0 : Int32) (4 : Int32)) fun r38 σ37 => ite2 (r38 = 0) (cl2 (g_M_no σ37 a0 (-2 : Int32)) fun r41 σ40 => some (r41, σ40)) (cl2 (g_M_within σ37 x3 (0 : Int32) (40 : Int32)) fun r43 σ42 => ite2 (r43 = 0) (cl2 (g_M_no σ42 a0 (-2 : Int32)) fun r52 σ51 => some (r52, σ51)) (drf (σ42.2.2 a0 0) fun b45 => grd (ns_kd b45 = 10) <| grd (ns_in x1 (ns_ln b45)) <| bnd (ns_pI σ42 b45 (ns_ix x1) x2) fun σ47 => drf (σ47.2.2 a0 1) fun b48 => grd (ns_kd b48 = 10) <| grd (ns_in x1 (ns_ln b48)) <| bnd (ns_pI σ47 b48 (ns_ix x1) x3) fun σ50 => g_M_row_53 ns_F σ50 a0 x1 (0 : Int32))))
theorem t_M_row_53 (G : ns_G) (l : Launch) {p : Program} {e : Env} {s : State} {m : MethodId} {args : Array Value} {below : List Frame} {meth : Method} {c : Code} (C : ns_Cx G p s m args meth c prog_11_method_8_code "NinthStepModel" 5) (hr : meth.sig.returnType = (some .int)) {r : Int32} {σ' : ns_St}  : ∀ (f : Nat) (σ : ns_St) (a0 : Nat) (x1 : Int32) (x4 : Int32) (hk_a0 : ns_kd a0 = 9), g_M_row_53 f σ a0 x1 x4 = some (r, σ') → VV G p l e { frames := 1, cells := 0, slots := 0, locals := 22 } s m args below meth c 5 0 0 (MQ below (ns_Qc G (some (.int r)) ns_N σ') args s 0 0 (ns_A G)) ns_N σ 53 [(0, .ref (G.1 + a0)), (1, .int x1), (4, .int x4)] [] := by
  intro f
  induction f with
  | zero =>
    intro σ a0 x1 x4 hk_a0 hf
    cases hf
  | succ f ih =>
    intro σ a0 x1 x4 hk_a0 hf
    rw [g_M_row_53] at hf
    refine v_iload C 4 2 rfl 55 rfl (by decide +kernel) ?_
    refine v_bipush C (40) (40) (by decide) 57 rfl (by decide +kernel) ?_
    refine v_icmp_ge C 79 60 rfl (by decide +kernel) (fun h27 => ?_) (fun h27 => ?_)
    · have hf := ite2_t hf h27
      refine v_iconst C (1) (1) (by decide) 80 rfl (by decide +kernel) ?_
      obtain ⟨rfl, rfl⟩ := ret_e hf
      exact v_iret C hr (by decide +kernel)
    · have hf := ite2_f hf h27
      refine v_aload_n C 0 0 rfl 61 rfl (by decide +kernel) ?_
      obtain ⟨b28, hb28, hf⟩ := drf_e hf
      obtain ⟨hk_b28, hf⟩ := grd_e hf
      refine v_getR C 9 2 hb28 rfl nin_9 (ns_kd_lt hk_a0 (by decide)) hk_a0 (by decide) (by decide) rfl 16 tw_977 rfl 64 rfl (by decide +kernel) ?_
      refine v_bipush C (40) (40) (by decide) 66 rfl (by decide +kernel) ?_
      refine v_iload_n C 1 1 rfl 67 rfl (by decide +kernel) ?_
      refine v_imul C 68 rfl (by decide +kernel) ?_
      refine v_iload C 4 2 rfl 70 rfl (by decide +kernel) ?_
      refine v_iadd C 71 rfl (by decide +kernel) ?_
      refine v_lconst C 0 (0) (by decide) 72 rfl (by decide +kernel) ?_
      obtain ⟨hi29, hf⟩ := grd_e hf
      obtain ⟨σ30, hσ30, hf⟩ := bnd_e hf
      refine v_last C hσ30 (ns_kd_lt hk_b28 (by decide)) hk_b28 hi29 73 rfl (by decide +kernel) ?_
      obtain ⟨z31, hz31, hf⟩ := bnd_e hf
      refine v_iinc C 4 (1) 2 z31 rfl (by rw [hz31]; rfl) [(4, .int z31), (0, .ref (G.1 + a0)), (1, .int x1)] (by decide) rfl 76 rfl (by decide +kernel) ?_
      refine v_goto C 53 (by decide +kernel) ?_
      refine v_sub [1, 2, 0] rfl ?_
      exact ih σ30 a0 x1 z31 hk_a0 hf
theorem c_M_row (G : ns_G) (l : Launch) (σ : ns_St) (a0 : Nat) (x1 : Int32) (x2 : Int32) (x3 : Int32) {r : Int32} {σ' : ns_St} (hf : g_M_row σ a0 x1 x2 x3 = some (r, σ')) : ns_ok G l ⟨"NinthStepModel", "row", "(III)I"⟩ prog_11_method_8_code 5 (some .int) 1 22 0 0 [.ref (G.1 + a0), .int x1, .int x2, .int x3] ns_N σ (some (.int r)) ns_N σ' := by
  refine v_open (by decide) (Nat.le_of_ble_eq_true rfl) rfl ?_
  intro p e s m below meth c C hr _
  have C : ns_Cx G p s m _ meth c prog_11_method_8_code "NinthStepModel" 5 := C
  unfold g_M_row at hf
  obtain ⟨hk_a0, hf⟩ := grd_e hf
  refine v_iload_n C 1 1 rfl 1 rfl (by decide +kernel) ?_
  refine v_iconst C (0) (0) (by decide) 2 rfl (by decide +kernel) ?_
  refine v_bipush C (7) (7) (by decide) 4 rfl (by decide +kernel) ?_
  obtain ⟨r33, σ32, hcr33, hf⟩ := cl2_e hf
  refine v_cS C [.int x1, .int (0 : Int32), .int (7 : Int32)] [] (c_M_within G l σ x1 (0 : Int32) (7 : Int32) hcr33) 69 3 tw_1075 tw_1073 tw_1074 tw_10 hd_M_within rfl ⟨(Nat.le_of_ble_eq_true rfl), (Nat.le_of_ble_eq_true rfl)⟩ ⟨(Nat.le_of_ble_eq_true rfl), (Nat.le_of_ble_eq_true rfl)⟩ (Nat.le_of_ble_eq_true rfl) rfl 7 rfl (by decide +kernel) [.int r33] rfl ?_
  refine v_if_eq C 29 10 rfl (by decide +kernel) (fun h34 => ?_) (fun h34 => ?_)
  · have hf := ite2_t hf h34
    refine v_aload_n C 0 0 rfl 30 rfl (by decide +kernel) ?_
    refine v_bipush C (-2) (-2) (by decide) 32 rfl (by decide +kernel) ?_
    obtain ⟨r36, σ35, hcr36, hf⟩ := cl2_e hf
    refine v_cV C 9 rfl (ns_kd_lt hk_a0 (by decide)) hk_a0 (by decide) [.int (-2 : Int32)] [] (c_M_no G l σ32 a0 (-2 : Int32) hcr36) 73 1 tw_1079 tw_1076 tw_1078 ts_73 tw_10 hd_M_no rfl ⟨(Nat.le_of_ble_eq_true rfl), (Nat.le_of_ble_eq_true rfl)⟩ ⟨(Nat.le_of_ble_eq_true rfl), (Nat.le_of_ble_eq_true rfl)⟩ (Nat.le_of_ble_eq_true rfl) rfl 35 rfl (by decide +kernel) [.int r36] rfl ?_
    obtain ⟨rfl, rfl⟩ := ret_e hf
    exact v_iret C hr (by decide +kernel)
  · have hf := ite2_f hf h34
    refine v_iload_n C 2 2 rfl 11 rfl (by decide +kernel) ?_
    refine v_iconst C (0) (0) (by decide) 12 rfl (by decide +kernel) ?_
    refine v_iconst C (4) (4) (by decide) 13 rfl (by decide +kernel) ?_
    obtain ⟨r38, σ37, hcr38, hf⟩ := cl2_e hf
    refine v_cS C [.int x2, .int (0 : Int32), .int (4 : Int32)] [] (c_M_within G l σ32 x2 (0 : Int32) (4 : Int32) hcr38) 69 3 tw_1075 tw_1073 tw_1074 tw_10 hd_M_within rfl ⟨(Nat.le_of_ble_eq_true rfl), (Nat.le_of_ble_eq_true rfl)⟩ ⟨(Nat.le_of_ble_eq_true rfl), (Nat.le_of_ble_eq_true rfl)⟩ (Nat.le_of_ble_eq_true rfl) rfl 16 rfl (by decide +kernel) [.int r38] rfl ?_
    refine v_if_eq C 29 19 rfl (by decide +kernel) (fun h39 => ?_) (fun h39 => ?_)
    · have hf := ite2_t hf h39
      refine v_aload_n C 0 0 rfl 30 rfl (by decide +kernel) ?_
      refine v_bipush C (-2) (-2) (by decide) 32 rfl (by decide +kernel) ?_
      obtain ⟨r41, σ40, hcr41, hf⟩ := cl2_e hf
      refine v_cV C 9 rfl (ns_kd_lt hk_a0 (by decide)) hk_a0 (by decide) [.int (-2 : Int32)] [] (c_M_no G l σ37 a0 (-2 : Int32) hcr41) 73 1 tw_1079 tw_1076 tw_1078 ts_73 tw_10 hd_M_no rfl ⟨(Nat.le_of_ble_eq_true rfl), (Nat.le_of_ble_eq_true rfl)⟩ ⟨(Nat.le_of_ble_eq_true rfl), (Nat.le_of_ble_eq_true rfl)⟩ (Nat.le_of_ble_eq_true rfl) rfl 35 rfl (by decide +kernel) [.int r41] rfl ?_
      obtain ⟨rfl, rfl⟩ := ret_e hf
      exact v_iret C hr (by decide +kernel)
    · have hf := ite2_f hf h39
      refine v_iload_n C 3 3 rfl 20 rfl (by decide +kernel) ?_
      refine v_iconst C (0) (0) (by decide) 21 rfl (by decide +kernel) ?_
      refine v_bipush C (40) (40) (by decide) 23 rfl (by decide +kernel) ?_
      obtain ⟨r43, σ42, hcr43, hf⟩ := cl2_e hf
      refine v_cS C [.int x3, .int (0 : Int32), .int (40 : Int32)] [] (c_M_within G l σ37 x3 (0 : Int32) (40 : Int32) hcr43) 69 3 tw_1075 tw_1073 tw_1074 tw_10 hd_M_within rfl ⟨(Nat.le_of_ble_eq_true rfl), (Nat.le_of_ble_eq_true rfl)⟩ ⟨(Nat.le_of_ble_eq_true rfl), (Nat.le_of_ble_eq_true rfl)⟩ (Nat.le_of_ble_eq_true rfl) rfl 26 rfl (by decide +kernel) [.int r43] rfl ?_
      refine v_if_ne C 36 29 rfl (by decide +kernel) (fun h44 => ?_) (fun h44 => ?_)
      · have hf := ite2_f hf h44
        refine v_aload_n C 0 0 rfl 37 rfl (by decide +kernel) ?_
        obtain ⟨b45, hb45, hf⟩ := drf_e hf
        obtain ⟨hk_b45, hf⟩ := grd_e hf
        refine v_getR C 9 0 hb45 rfl nin_9 (ns_kd_lt hk_a0 (by decide)) hk_a0 (by decide) (by decide) rfl 7 tw_975 rfl 40 rfl (by decide +kernel) ?_
        refine v_iload_n C 1 1 rfl 41 rfl (by decide +kernel) ?_
        refine v_iload_n C 2 2 rfl 42 rfl (by decide +kernel) ?_
        obtain ⟨hi46, hf⟩ := grd_e hf
        obtain ⟨σ47, hσ47, hf⟩ := bnd_e hf
        refine v_iast C hσ47 (ns_kd_lt hk_b45 (by decide)) hk_b45 hi46 43 rfl (by decide +kernel) ?_
        refine v_aload_n C 0 0 rfl 44 rfl (by decide +kernel) ?_
        obtain ⟨b48, hb48, hf⟩ := drf_e hf
        obtain ⟨hk_b48, hf⟩ := grd_e hf
        refine v_getR C 9 1 hb48 rfl nin_9 (ns_kd_lt hk_a0 (by decide)) hk_a0 (by decide) (by decide) rfl 13 tw_976 rfl 47 rfl (by decide +kernel) ?_
        refine v_iload_n C 1 1 rfl 48 rfl (by decide +kernel) ?_
        refine v_iload_n C 3 3 rfl 49 rfl (by decide +kernel) ?_
        obtain ⟨hi49, hf⟩ := grd_e hf
        obtain ⟨σ50, hσ50, hf⟩ := bnd_e hf
        refine v_iast C hσ50 (ns_kd_lt hk_b48 (by decide)) hk_b48 hi49 50 rfl (by decide +kernel) ?_
        refine v_iconst C (0) (0) (by decide) 51 rfl (by decide +kernel) ?_
        refine v_istore C 4 [(4, .int (0 : Int32)), (0, .ref (G.1 + a0)), (1, .int x1), (2, .int x2), (3, .int x3)] (by decide) rfl 53 rfl (by decide +kernel) ?_
        refine v_sub [1, 2, 0] rfl ?_
        exact t_M_row_53 G l C hr  ns_F σ50 a0 x1 (0 : Int32) hk_a0 hf
      · have hf := ite2_t hf h44
        refine v_aload_n C 0 0 rfl 30 rfl (by decide +kernel) ?_
        refine v_bipush C (-2) (-2) (by decide) 32 rfl (by decide +kernel) ?_
        obtain ⟨r52, σ51, hcr52, hf⟩ := cl2_e hf
        refine v_cV C 9 rfl (ns_kd_lt hk_a0 (by decide)) hk_a0 (by decide) [.int (-2 : Int32)] [] (c_M_no G l σ42 a0 (-2 : Int32) hcr52) 73 1 tw_1079 tw_1076 tw_1078 ts_73 tw_10 hd_M_no rfl ⟨(Nat.le_of_ble_eq_true rfl), (Nat.le_of_ble_eq_true rfl)⟩ ⟨(Nat.le_of_ble_eq_true rfl), (Nat.le_of_ble_eq_true rfl)⟩ (Nat.le_of_ble_eq_true rfl) rfl 35 rfl (by decide +kernel) [.int r52] rfl ?_
        obtain ⟨rfl, rfl⟩ := ret_e hf
        exact v_iret C hr (by decide +kernel)
theorem hd_M_row : (⟨"NinthStepModel", "row", "(III)I"⟩ : MethodName).cls = "NinthStepModel" ∧ (⟨"NinthStepModel", "row", "(III)I"⟩ : MethodName).cls ≠ "java/lang/invoke/MethodHandle" ∧ (⟨"NinthStepModel", "row", "(III)I"⟩ : MethodName).cls ≠ "java/lang/invoke/VarHandle" ∧ (parseMethodDescriptor (⟨"NinthStepModel", "row", "(III)I"⟩ : MethodName).desc).map (fun d => d.parameters.length) = some 3 := by decide +kernel
def g_M_noRow (σ : ns_St) (a0 : Nat) (x1 : Int32) : Option (Int32 × ns_St) := grd (ns_kd a0 = 9) <| cl2 (g_M_within σ x1 (0 : Int32) (7 : Int32)) fun r11 σ10 => ite2 (r11 = 0) (some ((-2 : Int32), σ10)) (drf (σ10.2.2 a0 0) fun b13 => grd (ns_kd b13 = 10) <| grd (ns_in x1 (ns_ln b13)) <| ite2 ((σ10.1 b13 (ns_ix x1)) ≤ (4 : Int32)) (drf (σ10.2.2 a0 0) fun b16 => grd (ns_kd b16 = 10) <| grd (ns_in x1 (ns_ln b16)) <| ite2 (0 ≤ (σ10.1 b16 (ns_ix x1))) (some ((0 : Int32), σ10)) (some ((-4 : Int32), σ10))) (some ((-3 : Int32), σ10)))
theorem c_M_noRow (G : ns_G) (l : Launch) (σ : ns_St) (a0 : Nat) (x1 : Int32) {r : Int32} {σ' : ns_St} (hf : g_M_noRow σ a0 x1 = some (r, σ')) : ns_ok G l ⟨"NinthStepModel", "noRow", "(I)I"⟩ prog_11_method_9_code 2 (some .int) 1 22 0 0 [.ref (G.1 + a0), .int x1] ns_N σ (some (.int r)) ns_N σ' := by
  refine v_open (by decide) (Nat.le_of_ble_eq_true rfl) rfl ?_
  intro p e s m below meth c C hr _
  have C : ns_Cx G p s m _ meth c prog_11_method_9_code "NinthStepModel" 2 := C
  unfold g_M_noRow at hf
  obtain ⟨hk_a0, hf⟩ := grd_e hf
  refine v_iload_n C 1 1 rfl 1 rfl (by decide +kernel) ?_
  refine v_iconst C (0) (0) (by decide) 2 rfl (by decide +kernel) ?_
  refine v_bipush C (7) (7) (by decide) 4 rfl (by decide +kernel) ?_
  obtain ⟨r11, σ10, hcr11, hf⟩ := cl2_e hf
  refine v_cS C [.int x1, .int (0 : Int32), .int (7 : Int32)] [] (c_M_within G l σ x1 (0 : Int32) (7 : Int32) hcr11) 69 3 tw_1075 tw_1073 tw_1074 tw_10 hd_M_within rfl ⟨(Nat.le_of_ble_eq_true rfl), (Nat.le_of_ble_eq_true rfl)⟩ ⟨(Nat.le_of_ble_eq_true rfl), (Nat.le_of_ble_eq_true rfl)⟩ (Nat.le_of_ble_eq_true rfl) rfl 7 rfl (by decide +kernel) [.int r11] rfl ?_
  refine v_if_ne C 13 10 rfl (by decide +kernel) (fun h12 => ?_) (fun h12 => ?_)
  · have hf := ite2_f hf h12
    refine v_aload_n C 0 0 rfl 14 rfl (by decide +kernel) ?_
    obtain ⟨b13, hb13, hf⟩ := drf_e hf
    obtain ⟨hk_b13, hf⟩ := grd_e hf
    refine v_getR C 9 0 hb13 rfl nin_9 (ns_kd_lt hk_a0 (by decide)) hk_a0 (by decide) (by decide) rfl 7 tw_975 rfl 17 rfl (by decide +kernel) ?_
    refine v_iload_n C 1 1 rfl 18 rfl (by decide +kernel) ?_
    obtain ⟨hi14, hf⟩ := grd_e hf
    refine v_iald C (ns_kd_lt hk_b13 (by decide)) hk_b13 hi14 19 rfl (by decide +kernel) ?_
    refine v_iconst C (4) (4) (by decide) 20 rfl (by decide +kernel) ?_
    refine v_icmp_le C 26 23 rfl (by decide +kernel) (fun h15 => ?_) (fun h15 => ?_)
    · have hf := ite2_t hf h15
      refine v_aload_n C 0 0 rfl 27 rfl (by decide +kernel) ?_
      obtain ⟨b16, hb16, hf⟩ := drf_e hf
      obtain ⟨hk_b16, hf⟩ := grd_e hf
      refine v_getR C 9 0 hb16 rfl nin_9 (ns_kd_lt hk_a0 (by decide)) hk_a0 (by decide) (by decide) rfl 7 tw_975 rfl 30 rfl (by decide +kernel) ?_
      refine v_iload_n C 1 1 rfl 31 rfl (by decide +kernel) ?_
      obtain ⟨hi17, hf⟩ := grd_e hf
      refine v_iald C (ns_kd_lt hk_b16 (by decide)) hk_b16 hi17 32 rfl (by decide +kernel) ?_
      refine v_if_ge C 40 35 rfl (by decide +kernel) (fun h18 => ?_) (fun h18 => ?_)
      · have hf := ite2_t hf h18
        refine v_iconst C (0) (0) (by decide) 41 rfl (by decide +kernel) ?_
        obtain ⟨rfl, rfl⟩ := ret_e hf
        exact v_iret C hr (by decide +kernel)
      · have hf := ite2_f hf h18
        refine v_bipush C (-4) (-4) (by decide) 37 rfl (by decide +kernel) ?_
        refine v_goto C 41 (by decide +kernel) ?_
        obtain ⟨rfl, rfl⟩ := ret_e hf
        exact v_iret C hr (by decide +kernel)
    · have hf := ite2_f hf h15
      refine v_bipush C (-3) (-3) (by decide) 25 rfl (by decide +kernel) ?_
      obtain ⟨rfl, rfl⟩ := ret_e hf
      exact v_iret C hr (by decide +kernel)
  · have hf := ite2_t hf h12
    refine v_bipush C (-2) (-2) (by decide) 12 rfl (by decide +kernel) ?_
    obtain ⟨rfl, rfl⟩ := ret_e hf
    exact v_iret C hr (by decide +kernel)
theorem hd_M_noRow : (⟨"NinthStepModel", "noRow", "(I)I"⟩ : MethodName).cls = "NinthStepModel" ∧ (⟨"NinthStepModel", "noRow", "(I)I"⟩ : MethodName).cls ≠ "java/lang/invoke/MethodHandle" ∧ (⟨"NinthStepModel", "noRow", "(I)I"⟩ : MethodName).cls ≠ "java/lang/invoke/VarHandle" ∧ (parseMethodDescriptor (⟨"NinthStepModel", "noRow", "(I)I"⟩ : MethodName).desc).map (fun d => d.parameters.length) = some 1 := by decide +kernel
def g_M_set_114  (σ : ns_St) (a0 : Nat) (x1 : Int32) (x2 : Int32) (x6 : Int64) : Option (Int32 × ns_St) := drf (σ.2.2 a0 2) fun b32 => grd (ns_kd b32 = 11) <| grd (ns_in (((40 : Int32) * x1) + x2) (ns_ln b32)) <| bnd (ns_pJ σ b32 (ns_ix (((40 : Int32) * x1) + x2)) x6) fun σ34 => some ((1 : Int32), σ34)
def g_M_set_112  (σ : ns_St) (s0 : Int64) (a0 : Nat) (x1 : Int32) (x2 : Int32) : Option (Int32 × ns_St) := g_M_set_114 σ a0 x1 x2 s0
def g_M_set_91  (σ : ns_St) (a0 : Nat) (x1 : Int32) (x2 : Int32) (x3 : Int64) (x6 : Int64) : Option (Int32 × ns_St) := drf (σ.2.2 a0 0) fun b35 => grd (ns_kd b35 = 10) <| grd (ns_in x1 (ns_ln b35)) <| ite2 ((σ.1 b35 (ns_ix x1)) = (4 : Int32)) (ite2 ((lg_cmp x3 (0 : Int64)) = 0) (g_M_set_112 σ (0 : Int64) a0 x1 x2) (g_M_set_112 σ (1 : Int64) a0 x1 x2)) (g_M_set_114 σ a0 x1 x2 x6)
def g_M_set_76  (σ : ns_St) (a0 : Nat) (x1 : Int32) (x2 : Int32) (x3 : Int64) (x6 : Int64) : Option (Int32 × ns_St) := drf (σ.2.2 a0 0) fun b39 => grd (ns_kd b39 = 10) <| grd (ns_in x1 (ns_ln b39)) <| ite2 ((σ.1 b39 (ns_ix x1)) = (2 : Int32)) (bnd ((x3.toInt32).toInt64) fun z42 => g_M_set_91 σ a0 x1 x2 x3 z42) (g_M_set_91 σ a0 x1 x2 x3 x6)
def g_M_set_60  (σ : ns_St) (a0 : Nat) (x1 : Int32) (x2 : Int32) (x3 : Int64) (x6 : Int64) : Option (Int32 × ns_St) := drf (σ.2.2 a0 0) fun b43 => grd (ns_kd b43 = 10) <| grd (ns_in x1 (ns_ln b43)) <| ite2 ((σ.1 b43 (ns_ix x1)) = (1 : Int32)) (bnd (((x3.toInt32).toInt16.toInt32).toInt64) fun z46 => g_M_set_76 σ a0 x1 x2 x3 z46) (g_M_set_76 σ a0 x1 x2 x3 x6)
def g_M_set (σ : ns_St) (a0 : Nat) (x1 : Int32) (x2 : Int32) (x3 : Int64) : Option (Int32 × ns_St) := grd (ns_kd a0 = 9) <| cl2 (g_M_noRow σ a0 x1) fun r48 σ47 => ite2 (0 ≤ r48) (drf (σ47.2.2 a0 1) fun b50 => grd (ns_kd b50 = 10) <| grd (ns_in x1 (ns_ln b50)) <| cl2 (g_M_within σ47 x2 (0 : Int32) ((σ47.1 b50 (ns_ix x1)) - (1 : Int32))) fun r53 σ52 => ite2 (r53 = 0) (cl2 (g_M_no σ52 a0 (-2 : Int32)) fun r60 σ59 => some (r60, σ59)) (drf (σ52.2.2 a0 0) fun b55 => grd (ns_kd b55 = 10) <| grd (ns_in x1 (ns_ln b55)) <| ite2 ((σ52.1 b55 (ns_ix x1)) = 0) (bnd (((x3.toInt32).toInt8.toInt32).toInt64) fun z58 => g_M_set_60 σ52 a0 x1 x2 x3 z58) (g_M_set_60 σ52 a0 x1 x2 x3 x3))) (cl2 (g_M_no σ47 a0 r48) fun r62 σ61 => some (r62, σ61))
theorem t_M_set_114 (G : ns_G) (l : Launch) {p : Program} {e : Env} {s : State} {m : MethodId} {args : Array Value} {below : List Frame} {meth : Method} {c : Code} (C : ns_Cx G p s m args meth c prog_11_method_10_code "NinthStepModel" 8) (hr : meth.sig.returnType = (some .int)) {r : Int32} {σ' : ns_St}  (σ : ns_St) (a0 : Nat) (x1 : Int32) (x2 : Int32) (x6 : Int64) (hk_a0 : ns_kd a0 = 9) (hf : g_M_set_114 σ a0 x1 x2 x6 = some (r, σ')) : VV G p l e { frames := 2, cells := 0, slots := 0, locals := 43 } s m args below meth c 8 0 0 (MQ below (ns_Qc G (some (.int r)) ns_N σ') args s 0 0 (ns_A G)) ns_N σ 114 [(0, .ref (G.1 + a0)), (1, .int x1), (2, .int x2), (6, .long x6)] [] := by
  unfold g_M_set_114 at hf
  refine v_aload_n C 0 0 rfl 115 rfl (by decide +kernel) ?_
  obtain ⟨b32, hb32, hf⟩ := drf_e hf
  obtain ⟨hk_b32, hf⟩ := grd_e hf
  refine v_getR C 9 2 hb32 rfl nin_9 (ns_kd_lt hk_a0 (by decide)) hk_a0 (by decide) (by decide) rfl 16 tw_977 rfl 118 rfl (by decide +kernel) ?_
  refine v_bipush C (40) (40) (by decide) 120 rfl (by decide +kernel) ?_
  refine v_iload_n C 1 1 rfl 121 rfl (by decide +kernel) ?_
  refine v_imul C 122 rfl (by decide +kernel) ?_
  refine v_iload_n C 2 2 rfl 123 rfl (by decide +kernel) ?_
  refine v_iadd C 124 rfl (by decide +kernel) ?_
  refine v_lload C 6 3 rfl 126 rfl (by decide +kernel) ?_
  obtain ⟨hi33, hf⟩ := grd_e hf
  obtain ⟨σ34, hσ34, hf⟩ := bnd_e hf
  refine v_last C hσ34 (ns_kd_lt hk_b32 (by decide)) hk_b32 hi33 127 rfl (by decide +kernel) ?_
  refine v_iconst C (1) (1) (by decide) 128 rfl (by decide +kernel) ?_
  obtain ⟨rfl, rfl⟩ := ret_e hf
  exact v_iret C hr (by decide +kernel)
theorem t_M_set_112 (G : ns_G) (l : Launch) {p : Program} {e : Env} {s : State} {m : MethodId} {args : Array Value} {below : List Frame} {meth : Method} {c : Code} (C : ns_Cx G p s m args meth c prog_11_method_10_code "NinthStepModel" 8) (hr : meth.sig.returnType = (some .int)) {r : Int32} {σ' : ns_St}  (σ : ns_St) (s0 : Int64) (a0 : Nat) (x1 : Int32) (x2 : Int32) (hk_a0 : ns_kd a0 = 9) (hf : g_M_set_112 σ s0 a0 x1 x2 = some (r, σ')) : VV G p l e { frames := 2, cells := 0, slots := 0, locals := 43 } s m args below meth c 8 0 0 (MQ below (ns_Qc G (some (.int r)) ns_N σ') args s 0 0 (ns_A G)) ns_N σ 112 [(0, .ref (G.1 + a0)), (1, .int x1), (2, .int x2)] [.long s0] := by
  unfold g_M_set_112 at hf
  refine v_lstore C 6 [(6, .long s0), (0, .ref (G.1 + a0)), (1, .int x1), (2, .int x2)] (by decide) rfl 114 rfl (by decide +kernel) ?_
  refine v_sub [1, 2, 3, 0] rfl ?_
  exact t_M_set_114 G l C hr  σ a0 x1 x2 s0 hk_a0 hf
theorem t_M_set_91 (G : ns_G) (l : Launch) {p : Program} {e : Env} {s : State} {m : MethodId} {args : Array Value} {below : List Frame} {meth : Method} {c : Code} (C : ns_Cx G p s m args meth c prog_11_method_10_code "NinthStepModel" 8) (hr : meth.sig.returnType = (some .int)) {r : Int32} {σ' : ns_St}  (σ : ns_St) (a0 : Nat) (x1 : Int32) (x2 : Int32) (x3 : Int64) (x6 : Int64) (hk_a0 : ns_kd a0 = 9) (hf : g_M_set_91 σ a0 x1 x2 x3 x6 = some (r, σ')) : VV G p l e { frames := 2, cells := 0, slots := 0, locals := 43 } s m args below meth c 8 0 0 (MQ below (ns_Qc G (some (.int r)) ns_N σ') args s 0 0 (ns_A G)) ns_N σ 91 [(0, .ref (G.1 + a0)), (1, .int x1), (2, .int x2), (3, .long x3), (6, .long x6)] [] := by
  unfold g_M_set_91 at hf
  refine v_aload_n C 0 0 rfl 92 rfl (by decide +kernel) ?_
  obtain ⟨b35, hb35, hf⟩ := drf_e hf
  obtain ⟨hk_b35, hf⟩ := grd_e hf
  refine v_getR C 9 0 hb35 rfl nin_9 (ns_kd_lt hk_a0 (by decide)) hk_a0 (by decide) (by decide) rfl 7 tw_975 rfl 95 rfl (by decide +kernel) ?_
  refine v_iload_n C 1 1 rfl 96 rfl (by decide +kernel) ?_
  obtain ⟨hi36, hf⟩ := grd_e hf
  refine v_iald C (ns_kd_lt hk_b35 (by decide)) hk_b35 hi36 97 rfl (by decide +kernel) ?_
  refine v_iconst C (4) (4) (by decide) 98 rfl (by decide +kernel) ?_
  refine v_icmp_ne C 114 101 rfl (by decide +kernel) (fun h37 => ?_) (fun h37 => ?_)
  · have hf := ite2_f hf h37
    refine v_sub [0, 1, 2, 4] rfl ?_
    exact t_M_set_114 G l C hr  σ a0 x1 x2 x6 hk_a0 hf
  · have hf := ite2_t hf h37
    refine v_lload_n C 3 3 rfl 102 rfl (by decide +kernel) ?_
    refine v_lconst C 0 (0) (by decide) 103 rfl (by decide +kernel) ?_
    refine v_lcmp C 104 rfl (by decide +kernel) ?_
    refine v_if_eq C 111 107 rfl (by decide +kernel) (fun h38 => ?_) (fun h38 => ?_)
    · have hf := ite2_t hf h38
      refine v_lconst C 0 (0) (by decide) 112 rfl (by decide +kernel) ?_
      refine v_sub [0, 1, 2] rfl ?_
      exact t_M_set_112 G l C hr  σ (0 : Int64) a0 x1 x2 hk_a0 hf
    · have hf := ite2_f hf h38
      refine v_lconst C 1 (1) (by decide) 108 rfl (by decide +kernel) ?_
      refine v_goto C 112 (by decide +kernel) ?_
      refine v_sub [0, 1, 2] rfl ?_
      exact t_M_set_112 G l C hr  σ (1 : Int64) a0 x1 x2 hk_a0 hf
theorem t_M_set_76 (G : ns_G) (l : Launch) {p : Program} {e : Env} {s : State} {m : MethodId} {args : Array Value} {below : List Frame} {meth : Method} {c : Code} (C : ns_Cx G p s m args meth c prog_11_method_10_code "NinthStepModel" 8) (hr : meth.sig.returnType = (some .int)) {r : Int32} {σ' : ns_St}  (σ : ns_St) (a0 : Nat) (x1 : Int32) (x2 : Int32) (x3 : Int64) (x6 : Int64) (hk_a0 : ns_kd a0 = 9) (hf : g_M_set_76 σ a0 x1 x2 x3 x6 = some (r, σ')) : VV G p l e { frames := 2, cells := 0, slots := 0, locals := 43 } s m args below meth c 8 0 0 (MQ below (ns_Qc G (some (.int r)) ns_N σ') args s 0 0 (ns_A G)) ns_N σ 76 [(0, .ref (G.1 + a0)), (1, .int x1), (2, .int x2), (3, .long x3), (6, .long x6)] [] := by
  unfold g_M_set_76 at hf
  refine v_aload_n C 0 0 rfl 77 rfl (by decide +kernel) ?_
  obtain ⟨b39, hb39, hf⟩ := drf_e hf
  obtain ⟨hk_b39, hf⟩ := grd_e hf
  refine v_getR C 9 0 hb39 rfl nin_9 (ns_kd_lt hk_a0 (by decide)) hk_a0 (by decide) (by decide) rfl 7 tw_975 rfl 80 rfl (by decide +kernel) ?_
  refine v_iload_n C 1 1 rfl 81 rfl (by decide +kernel) ?_
  obtain ⟨hi40, hf⟩ := grd_e hf
  refine v_iald C (ns_kd_lt hk_b39 (by decide)) hk_b39 hi40 82 rfl (by decide +kernel) ?_
  refine v_iconst C (2) (2) (by decide) 83 rfl (by decide +kernel) ?_
  refine v_icmp_ne C 91 86 rfl (by decide +kernel) (fun h41 => ?_) (fun h41 => ?_)
  · have hf := ite2_f hf h41
    exact t_M_set_91 G l C hr  σ a0 x1 x2 x3 x6 hk_a0 hf
  · have hf := ite2_t hf h41
    refine v_lload_n C 3 3 rfl 87 rfl (by decide +kernel) ?_
    refine v_l2i C 88 rfl (by decide +kernel) ?_
    refine v_i2l C 89 rfl (by decide +kernel) ?_
    obtain ⟨z42, hz42, hf⟩ := bnd_e hf
    refine v_nmJ hz42 ?_
    refine v_lstore C 6 [(6, .long z42), (0, .ref (G.1 + a0)), (1, .int x1), (2, .int x2), (3, .long x3)] (by decide) rfl 91 rfl (by decide +kernel) ?_
    refine v_sub [1, 2, 3, 4, 0] rfl ?_
    exact t_M_set_91 G l C hr  σ a0 x1 x2 x3 z42 hk_a0 hf
theorem t_M_set_60 (G : ns_G) (l : Launch) {p : Program} {e : Env} {s : State} {m : MethodId} {args : Array Value} {below : List Frame} {meth : Method} {c : Code} (C : ns_Cx G p s m args meth c prog_11_method_10_code "NinthStepModel" 8) (hr : meth.sig.returnType = (some .int)) {r : Int32} {σ' : ns_St}  (σ : ns_St) (a0 : Nat) (x1 : Int32) (x2 : Int32) (x3 : Int64) (x6 : Int64) (hk_a0 : ns_kd a0 = 9) (hf : g_M_set_60 σ a0 x1 x2 x3 x6 = some (r, σ')) : VV G p l e { frames := 2, cells := 0, slots := 0, locals := 43 } s m args below meth c 8 0 0 (MQ below (ns_Qc G (some (.int r)) ns_N σ') args s 0 0 (ns_A G)) ns_N σ 60 [(0, .ref (G.1 + a0)), (1, .int x1), (2, .int x2), (3, .long x3), (6, .long x6)] [] := by
  unfold g_M_set_60 at hf
  refine v_aload_n C 0 0 rfl 61 rfl (by decide +kernel) ?_
  obtain ⟨b43, hb43, hf⟩ := drf_e hf
  obtain ⟨hk_b43, hf⟩ := grd_e hf
  refine v_getR C 9 0 hb43 rfl nin_9 (ns_kd_lt hk_a0 (by decide)) hk_a0 (by decide) (by decide) rfl 7 tw_975 rfl 64 rfl (by decide +kernel) ?_
  refine v_iload_n C 1 1 rfl 65 rfl (by decide +kernel) ?_
  obtain ⟨hi44, hf⟩ := grd_e hf
  refine v_iald C (ns_kd_lt hk_b43 (by decide)) hk_b43 hi44 66 rfl (by decide +kernel) ?_
  refine v_iconst C (1) (1) (by decide) 67 rfl (by decide +kernel) ?_
  refine v_icmp_ne C 76 70 rfl (by decide +kernel) (fun h45 => ?_) (fun h45 => ?_)
  · have hf := ite2_f hf h45
    exact t_M_set_76 G l C hr  σ a0 x1 x2 x3 x6 hk_a0 hf
  · have hf := ite2_t hf h45
    refine v_lload_n C 3 3 rfl 71 rfl (by decide +kernel) ?_
    refine v_l2i C 72 rfl (by decide +kernel) ?_
    refine v_i2s C 73 rfl (by decide +kernel) ?_
    refine v_i2l C 74 rfl (by decide +kernel) ?_
    obtain ⟨z46, hz46, hf⟩ := bnd_e hf
    refine v_nmJ hz46 ?_
    refine v_lstore C 6 [(6, .long z46), (0, .ref (G.1 + a0)), (1, .int x1), (2, .int x2), (3, .long x3)] (by decide) rfl 76 rfl (by decide +kernel) ?_
    refine v_sub [1, 2, 3, 4, 0] rfl ?_
    exact t_M_set_76 G l C hr  σ a0 x1 x2 x3 z46 hk_a0 hf
theorem c_M_set (G : ns_G) (l : Launch) (σ : ns_St) (a0 : Nat) (x1 : Int32) (x2 : Int32) (x3 : Int64) {r : Int32} {σ' : ns_St} (hf : g_M_set σ a0 x1 x2 x3 = some (r, σ')) : ns_ok G l ⟨"NinthStepModel", "set", "(IIJ)I"⟩ prog_11_method_10_code 8 (some .int) 2 43 0 0 [.ref (G.1 + a0), .int x1, .int x2, .long x3] ns_N σ (some (.int r)) ns_N σ' := by
  refine v_open (by decide) (Nat.le_of_ble_eq_true rfl) rfl ?_
  intro p e s m below meth c C hr _
  have C : ns_Cx G p s m _ meth c prog_11_method_10_code "NinthStepModel" 8 := C
  unfold g_M_set at hf
  obtain ⟨hk_a0, hf⟩ := grd_e hf
  refine v_aload_n C 0 0 rfl 1 rfl (by decide +kernel) ?_
  refine v_iload_n C 1 1 rfl 2 rfl (by decide +kernel) ?_
  obtain ⟨r48, σ47, hcr48, hf⟩ := cl2_e hf
  refine v_cV C 9 rfl (ns_kd_lt hk_a0 (by decide)) hk_a0 (by decide) [.int x1] [] (c_M_noRow G l σ a0 x1 hcr48) 77 1 tw_1087 tw_1084 tw_1086 ts_74 tw_10 hd_M_noRow rfl ⟨(Nat.le_of_ble_eq_true rfl), (Nat.le_of_ble_eq_true rfl)⟩ ⟨(Nat.le_of_ble_eq_true rfl), (Nat.le_of_ble_eq_true rfl)⟩ (Nat.le_of_ble_eq_true rfl) rfl 5 rfl (by decide +kernel) [.int r48] rfl ?_
  refine v_istore C 5 [(5, .int r48), (0, .ref (G.1 + a0)), (1, .int x1), (2, .int x2), (3, .long x3)] (by decide) rfl 7 rfl (by decide +kernel) ?_
  refine v_iload C 5 0 rfl 9 rfl (by decide +kernel) ?_
  refine v_if_ge C 19 12 rfl (by decide +kernel) (fun h49 => ?_) (fun h49 => ?_)
  · have hf := ite2_t hf h49
    refine v_iload_n C 2 3 rfl 20 rfl (by decide +kernel) ?_
    refine v_iconst C (0) (0) (by decide) 21 rfl (by decide +kernel) ?_
    refine v_aload_n C 0 1 rfl 22 rfl (by decide +kernel) ?_
    obtain ⟨b50, hb50, hf⟩ := drf_e hf
    obtain ⟨hk_b50, hf⟩ := grd_e hf
    refine v_getR C 9 1 hb50 rfl nin_9 (ns_kd_lt hk_a0 (by decide)) hk_a0 (by decide) (by decide) rfl 13 tw_976 rfl 25 rfl (by decide +kernel) ?_
    refine v_iload_n C 1 2 rfl 26 rfl (by decide +kernel) ?_
    obtain ⟨hi51, hf⟩ := grd_e hf
    refine v_iald C (ns_kd_lt hk_b50 (by decide)) hk_b50 hi51 27 rfl (by decide +kernel) ?_
    refine v_iconst C (1) (1) (by decide) 28 rfl (by decide +kernel) ?_
    refine v_isub C 29 rfl (by decide +kernel) ?_
    obtain ⟨r53, σ52, hcr53, hf⟩ := cl2_e hf
    refine v_cS C [.int x2, .int (0 : Int32), .int ((σ47.1 b50 (ns_ix x1)) - (1 : Int32))] [] (c_M_within G l σ47 x2 (0 : Int32) ((σ47.1 b50 (ns_ix x1)) - (1 : Int32)) hcr53) 69 3 tw_1075 tw_1073 tw_1074 tw_10 hd_M_within rfl ⟨(Nat.le_of_ble_eq_true rfl), (Nat.le_of_ble_eq_true rfl)⟩ ⟨(Nat.le_of_ble_eq_true rfl), (Nat.le_of_ble_eq_true rfl)⟩ (Nat.le_of_ble_eq_true rfl) rfl 32 rfl (by decide +kernel) [.int r53] rfl ?_
    refine v_if_ne C 42 35 rfl (by decide +kernel) (fun h54 => ?_) (fun h54 => ?_)
    · have hf := ite2_f hf h54
      refine v_lload_n C 3 4 rfl 43 rfl (by decide +kernel) ?_
      refine v_lstore C 6 [(6, .long x3), (5, .int r48), (0, .ref (G.1 + a0)), (1, .int x1), (2, .int x2), (3, .long x3)] (by decide) rfl 45 rfl (by decide +kernel) ?_
      refine v_aload_n C 0 2 rfl 46 rfl (by decide +kernel) ?_
      obtain ⟨b55, hb55, hf⟩ := drf_e hf
      obtain ⟨hk_b55, hf⟩ := grd_e hf
      refine v_getR C 9 0 hb55 rfl nin_9 (ns_kd_lt hk_a0 (by decide)) hk_a0 (by decide) (by decide) rfl 7 tw_975 rfl 49 rfl (by decide +kernel) ?_
      refine v_iload_n C 1 3 rfl 50 rfl (by decide +kernel) ?_
      obtain ⟨hi56, hf⟩ := grd_e hf
      refine v_iald C (ns_kd_lt hk_b55 (by decide)) hk_b55 hi56 51 rfl (by decide +kernel) ?_
      refine v_if_ne C 60 54 rfl (by decide +kernel) (fun h57 => ?_) (fun h57 => ?_)
      · have hf := ite2_f hf h57
        refine v_sub [2, 3, 4, 5, 0] rfl ?_
        exact t_M_set_60 G l C hr  σ52 a0 x1 x2 x3 x3 hk_a0 hf
      · have hf := ite2_t hf h57
        refine v_lload_n C 3 5 rfl 55 rfl (by decide +kernel) ?_
        refine v_l2i C 56 rfl (by decide +kernel) ?_
        refine v_i2b C 57 rfl (by decide +kernel) ?_
        refine v_i2l C 58 rfl (by decide +kernel) ?_
        obtain ⟨z58, hz58, hf⟩ := bnd_e hf
        refine v_nmJ hz58 ?_
        refine v_lstore C 6 [(6, .long z58), (5, .int r48), (0, .ref (G.1 + a0)), (1, .int x1), (2, .int x2), (3, .long x3)] (by decide) rfl 60 rfl (by decide +kernel) ?_
        refine v_sub [2, 3, 4, 5, 0] rfl ?_
        exact t_M_set_60 G l C hr  σ52 a0 x1 x2 x3 z58 hk_a0 hf
    · have hf := ite2_t hf h54
      refine v_aload_n C 0 1 rfl 36 rfl (by decide +kernel) ?_
      refine v_bipush C (-2) (-2) (by decide) 38 rfl (by decide +kernel) ?_
      obtain ⟨r60, σ59, hcr60, hf⟩ := cl2_e hf
      refine v_cV C 9 rfl (ns_kd_lt hk_a0 (by decide)) hk_a0 (by decide) [.int (-2 : Int32)] [] (c_M_no G l σ52 a0 (-2 : Int32) hcr60) 73 1 tw_1079 tw_1076 tw_1078 ts_73 tw_10 hd_M_no rfl ⟨(Nat.le_of_ble_eq_true rfl), (Nat.le_of_ble_eq_true rfl)⟩ ⟨(Nat.le_of_ble_eq_true rfl), (Nat.le_of_ble_eq_true rfl)⟩ (Nat.le_of_ble_eq_true rfl) rfl 41 rfl (by decide +kernel) [.int r60] rfl ?_
      obtain ⟨rfl, rfl⟩ := ret_e hf
      exact v_iret C hr (by decide +kernel)
  · have hf := ite2_f hf h49
    refine v_aload_n C 0 1 rfl 13 rfl (by decide +kernel) ?_
    refine v_iload C 5 0 rfl 15 rfl (by decide +kernel) ?_
    obtain ⟨r62, σ61, hcr62, hf⟩ := cl2_e hf
    refine v_cV C 9 rfl (ns_kd_lt hk_a0 (by decide)) hk_a0 (by decide) [.int r48] [] (c_M_no G l σ47 a0 r48 hcr62) 73 1 tw_1079 tw_1076 tw_1078 ts_73 tw_10 hd_M_no rfl ⟨(Nat.le_of_ble_eq_true rfl), (Nat.le_of_ble_eq_true rfl)⟩ ⟨(Nat.le_of_ble_eq_true rfl), (Nat.le_of_ble_eq_true rfl)⟩ (Nat.le_of_ble_eq_true rfl) rfl 18 rfl (by decide +kernel) [.int r62] rfl ?_
    obtain ⟨rfl, rfl⟩ := ret_e hf
    exact v_iret C hr (by decide +kernel)
theorem hd_M_set : (⟨"NinthStepModel", "set", "(IIJ)I"⟩ : MethodName).cls = "NinthStepModel" ∧ (⟨"NinthStepModel", "set", "(IIJ)I"⟩ : MethodName).cls ≠ "java/lang/invoke/MethodHandle" ∧ (⟨"NinthStepModel", "set", "(IIJ)I"⟩ : MethodName).cls ≠ "java/lang/invoke/VarHandle" ∧ (parseMethodDescriptor (⟨"NinthStepModel", "set", "(IIJ)I"⟩ : MethodName).desc).map (fun d => d.parameters.length) = some 3 := by decide +kernel
def g_M_isRow (σ : ns_St) (a0 : Nat) (x1 : Int32) : Option (Int32 × ns_St) := grd (ns_kd a0 = 9) <| drf (σ.2.2 a0 0) fun b6 => grd (ns_kd b6 = 10) <| grd (ns_in x1 (ns_ln b6)) <| cl2 (g_M_within σ (σ.1 b6 (ns_ix x1)) (0 : Int32) (4 : Int32)) fun r9 σ8 => grd (r9 = 0 ∨ r9 = 1) <| some (r9, σ8)
theorem c_M_isRow (G : ns_G) (l : Launch) (σ : ns_St) (a0 : Nat) (x1 : Int32) {r : Int32} {σ' : ns_St} (hf : g_M_isRow σ a0 x1 = some (r, σ')) : ns_ok G l ⟨"NinthStepModel", "isRow", "(I)Z"⟩ prog_11_method_7_code 2 (some .boolean) 1 22 0 0 [.ref (G.1 + a0), .int x1] ns_N σ (some (.int r)) ns_N σ' := by
  refine v_open (by decide) (Nat.le_of_ble_eq_true rfl) rfl ?_
  intro p e s m below meth c C hr _
  have C : ns_Cx G p s m _ meth c prog_11_method_7_code "NinthStepModel" 2 := C
  unfold g_M_isRow at hf
  obtain ⟨hk_a0, hf⟩ := grd_e hf
  refine v_aload_n C 0 0 rfl 1 rfl (by decide +kernel) ?_
  obtain ⟨b6, hb6, hf⟩ := drf_e hf
  obtain ⟨hk_b6, hf⟩ := grd_e hf
  refine v_getR C 9 0 hb6 rfl nin_9 (ns_kd_lt hk_a0 (by decide)) hk_a0 (by decide) (by decide) rfl 7 tw_975 rfl 4 rfl (by decide +kernel) ?_
  refine v_iload_n C 1 1 rfl 5 rfl (by decide +kernel) ?_
  obtain ⟨hi7, hf⟩ := grd_e hf
  refine v_iald C (ns_kd_lt hk_b6 (by decide)) hk_b6 hi7 6 rfl (by decide +kernel) ?_
  refine v_iconst C (0) (0) (by decide) 7 rfl (by decide +kernel) ?_
  refine v_iconst C (4) (4) (by decide) 8 rfl (by decide +kernel) ?_
  obtain ⟨r9, σ8, hcr9, hf⟩ := cl2_e hf
  refine v_cS C [.int (σ.1 b6 (ns_ix x1)), .int (0 : Int32), .int (4 : Int32)] [] (c_M_within G l σ (σ.1 b6 (ns_ix x1)) (0 : Int32) (4 : Int32) hcr9) 69 3 tw_1075 tw_1073 tw_1074 tw_10 hd_M_within rfl ⟨(Nat.le_of_ble_eq_true rfl), (Nat.le_of_ble_eq_true rfl)⟩ ⟨(Nat.le_of_ble_eq_true rfl), (Nat.le_of_ble_eq_true rfl)⟩ (Nat.le_of_ble_eq_true rfl) rfl 11 rfl (by decide +kernel) [.int r9] rfl ?_
  obtain ⟨hz10, hf⟩ := grd_e hf
  obtain ⟨rfl, rfl⟩ := ret_e hf
  exact v_zret C hr (ns_z01 hz10) (by decide +kernel)
theorem hd_M_isRow : (⟨"NinthStepModel", "isRow", "(I)Z"⟩ : MethodName).cls = "NinthStepModel" ∧ (⟨"NinthStepModel", "isRow", "(I)Z"⟩ : MethodName).cls ≠ "java/lang/invoke/MethodHandle" ∧ (⟨"NinthStepModel", "isRow", "(I)Z"⟩ : MethodName).cls ≠ "java/lang/invoke/VarHandle" ∧ (parseMethodDescriptor (⟨"NinthStepModel", "isRow", "(I)Z"⟩ : MethodName).desc).map (fun d => d.parameters.length) = some 1 := by decide +kernel
