def g_N_numbers (σ : ns_St) (a0 : Nat) (x1 : Int32) (x2 : Int32) (x3 : Int32) : Option (Int32 × ns_St) := grd (ns_kd a0 = 8) <| cl2 (g_N_shelfAt σ a0 x1) fun r32 σ31 => onul r32 (cl2 (g_N_refuse σ31 a0 (-2 : Int32)) fun r35 σ34 => some (r35, σ34)) (fun b33 => grd (ns_kd b33 = 3) <| cl2 (g_N_isWithin σ31 x2 (1 : Int32) (40 : Int32)) fun r37 σ36 => ite2 (r37 = 0) (cl2 (g_N_refuse σ36 a0 (-2 : Int32)) fun r40 σ39 => some (r40, σ39)) (cl2 (g_N_isWithin σ36 x3 (0 : Int32) (1 : Int32)) fun r42 σ41 => ite2 (r42 = 0) (cl2 (g_N_refuse σ41 a0 (-2 : Int32)) fun r60 σ59 => some (r60, σ59)) (cl2 (g_Shelf_troubleAsRow σ41 b33) fun r45 σ44 => ite2 (r45 = 0) (cl2 (g_N_placesTold σ44 a0 b33 x2) fun r48 σ47 => ite2 ((lg_cmp r48 (0 : Int64)) = 0) (cl2 (g_N_refuse σ47 a0 (-2 : Int32)) fun r56 σ55 => some (r56, σ55)) (ite2 (x3 = (1 : Int32)) (cl2 (g_N_pairsBy σ47 a0 r48 (1 : Int32)) fun r54 σ53 => some (r54, σ53)) (cl2 (g_N_pairsBy σ47 a0 r48 (0 : Int32)) fun r52 σ51 => some (r52, σ51)))) (cl2 (g_N_refuse σ44 a0 r45) fun r58 σ57 => some (r58, σ57)))))
theorem c_N_numbers (G : ns_G) (l : Launch) (σ : ns_St) (a0 : Nat) (x1 : Int32) (x2 : Int32) (x3 : Int32) {r : Int32} {σ' : ns_St} (hf : g_N_numbers σ a0 x1 x2 x3 = some (r, σ')) : ns_ok G l ⟨"NinthStep", "numbers", "(III)I"⟩ prog_1_method_34_code 8 (some .int) 5 117 0 0 [.ref (G.1 + a0), .int x1, .int x2, .int x3] ns_N σ (some (.int r)) ns_N σ' := by
  refine v_open (by decide) (Nat.le_of_ble_eq_true rfl) rfl ?_
  intro p e s m below meth c C hr _
  have C : ns_Cx G p s m _ meth c prog_1_method_34_code "NinthStep" 8 := C
  unfold g_N_numbers at hf
  obtain ⟨hk_a0, hf⟩ := grd_e hf
  refine v_aload_n C 0 0 rfl 1 rfl (by decide +kernel) ?_
  refine v_iload_n C 1 1 rfl 2 rfl (by decide +kernel) ?_
  obtain ⟨r32, σ31, hcr32, hf⟩ := cl2_e hf
  rcases r32 with _ | b33
  · have hf := onul_n hf
    refine v_cV C 8 rfl (ns_kd_lt hk_a0 (by decide)) hk_a0 (by decide) [.int x1] [] (c_N_shelfAt G l σ a0 x1 hcr32) 71 1 tw_331 tw_328 tw_330 ts_0 tw_1 hd_N_shelfAt rfl ⟨(Nat.le_of_ble_eq_true rfl), (Nat.le_of_ble_eq_true rfl)⟩ ⟨(Nat.le_of_ble_eq_true rfl), (Nat.le_of_ble_eq_true rfl)⟩ (Nat.le_of_ble_eq_true rfl) rfl 5 rfl (by decide +kernel) [.null] rfl ?_
    refine v_astoreN C 4 [(4, .null), (0, .ref (G.1 + a0)), (1, .int x1), (2, .int x2), (3, .int x3)] (by decide) rfl 7 rfl (by decide +kernel) ?_
    refine v_aloadN C 4 0 rfl 9 rfl (by decide +kernel) ?_
    refine v_ifnullN C 31 (by decide +kernel) ?_
    refine v_aload_n C 0 1 rfl 32 rfl (by decide +kernel) ?_
    refine v_bipush C (-2) (-2) (by decide) 34 rfl (by decide +kernel) ?_
    obtain ⟨r35, σ34, hcr35, hf⟩ := cl2_e hf
    refine v_cV C 8 rfl (ns_kd_lt hk_a0 (by decide)) hk_a0 (by decide) [.int (-2 : Int32)] [] (c_N_refuse G l σ31 a0 (-2 : Int32) hcr35) 79 1 tw_338 tw_335 tw_337 ts_1 tw_1 hd_N_refuse rfl ⟨(Nat.le_of_ble_eq_true rfl), (Nat.le_of_ble_eq_true rfl)⟩ ⟨(Nat.le_of_ble_eq_true rfl), (Nat.le_of_ble_eq_true rfl)⟩ (Nat.le_of_ble_eq_true rfl) rfl 37 rfl (by decide +kernel) [.int r35] rfl ?_
    obtain ⟨rfl, rfl⟩ := ret_e hf
    exact v_iret C hr (by decide +kernel)
  · have hf := onul_s hf
    obtain ⟨hk_b33, hf⟩ := grd_e hf
    refine v_cV C 8 rfl (ns_kd_lt hk_a0 (by decide)) hk_a0 (by decide) [.int x1] [] (c_N_shelfAt G l σ a0 x1 hcr32) 71 1 tw_331 tw_328 tw_330 ts_0 tw_1 hd_N_shelfAt rfl ⟨(Nat.le_of_ble_eq_true rfl), (Nat.le_of_ble_eq_true rfl)⟩ ⟨(Nat.le_of_ble_eq_true rfl), (Nat.le_of_ble_eq_true rfl)⟩ (Nat.le_of_ble_eq_true rfl) rfl 5 rfl (by decide +kernel) [.ref (G.1 + b33)] rfl ?_
    refine v_astore C 4 [(4, .ref (G.1 + b33)), (0, .ref (G.1 + a0)), (1, .int x1), (2, .int x2), (3, .int x3)] (by decide) rfl 7 rfl (by decide +kernel) ?_
    refine v_aload C 4 0 rfl 9 rfl (by decide +kernel) ?_
    refine v_ifnull C 31 12 rfl (by decide +kernel) ?_
    refine v_iload_n C 2 3 rfl 13 rfl (by decide +kernel) ?_
    refine v_iconst C (1) (1) (by decide) 14 rfl (by decide +kernel) ?_
    refine v_bipush C (40) (40) (by decide) 16 rfl (by decide +kernel) ?_
    obtain ⟨r37, σ36, hcr37, hf⟩ := cl2_e hf
    refine v_cS C [.int x2, .int (1 : Int32), .int (40 : Int32)] [] (c_N_isWithin G l σ31 x2 (1 : Int32) (40 : Int32) hcr37) 75 3 tw_334 tw_332 tw_333 tw_1 hd_N_isWithin rfl ⟨(Nat.le_of_ble_eq_true rfl), (Nat.le_of_ble_eq_true rfl)⟩ ⟨(Nat.le_of_ble_eq_true rfl), (Nat.le_of_ble_eq_true rfl)⟩ (Nat.le_of_ble_eq_true rfl) rfl 19 rfl (by decide +kernel) [.int r37] rfl ?_
    refine v_if_eq C 31 22 rfl (by decide +kernel) (fun h38 => ?_) (fun h38 => ?_)
    · have hf := ite2_t hf h38
      refine v_aload_n C 0 1 rfl 32 rfl (by decide +kernel) ?_
      refine v_bipush C (-2) (-2) (by decide) 34 rfl (by decide +kernel) ?_
      obtain ⟨r40, σ39, hcr40, hf⟩ := cl2_e hf
      refine v_cV C 8 rfl (ns_kd_lt hk_a0 (by decide)) hk_a0 (by decide) [.int (-2 : Int32)] [] (c_N_refuse G l σ36 a0 (-2 : Int32) hcr40) 79 1 tw_338 tw_335 tw_337 ts_1 tw_1 hd_N_refuse rfl ⟨(Nat.le_of_ble_eq_true rfl), (Nat.le_of_ble_eq_true rfl)⟩ ⟨(Nat.le_of_ble_eq_true rfl), (Nat.le_of_ble_eq_true rfl)⟩ (Nat.le_of_ble_eq_true rfl) rfl 37 rfl (by decide +kernel) [.int r40] rfl ?_
      obtain ⟨rfl, rfl⟩ := ret_e hf
      exact v_iret C hr (by decide +kernel)
    · have hf := ite2_f hf h38
      refine v_iload_n C 3 4 rfl 23 rfl (by decide +kernel) ?_
      refine v_iconst C (0) (0) (by decide) 24 rfl (by decide +kernel) ?_
      refine v_iconst C (1) (1) (by decide) 25 rfl (by decide +kernel) ?_
      obtain ⟨r42, σ41, hcr42, hf⟩ := cl2_e hf
      refine v_cS C [.int x3, .int (0 : Int32), .int (1 : Int32)] [] (c_N_isWithin G l σ36 x3 (0 : Int32) (1 : Int32) hcr42) 75 3 tw_334 tw_332 tw_333 tw_1 hd_N_isWithin rfl ⟨(Nat.le_of_ble_eq_true rfl), (Nat.le_of_ble_eq_true rfl)⟩ ⟨(Nat.le_of_ble_eq_true rfl), (Nat.le_of_ble_eq_true rfl)⟩ (Nat.le_of_ble_eq_true rfl) rfl 28 rfl (by decide +kernel) [.int r42] rfl ?_
      refine v_if_ne C 38 31 rfl (by decide +kernel) (fun h43 => ?_) (fun h43 => ?_)
      · have hf := ite2_f hf h43
        refine v_aload C 4 0 rfl 40 rfl (by decide +kernel) ?_
        obtain ⟨r45, σ44, hcr45, hf⟩ := cl2_e hf
        refine v_cVN C 3 rfl (ns_kd_lt hk_b33 (by decide)) hk_b33 (by decide) [] [] (c_Shelf_troubleAsRow G l σ41 b33 hcr45) 87 0 tw_350 tw_347 tw_349 ts_3 tw_9 hd_Shelf_troubleAsRow rfl ⟨(Nat.le_of_ble_eq_true rfl), (Nat.le_of_ble_eq_true rfl)⟩ ⟨(Nat.le_of_ble_eq_true rfl), (Nat.le_of_ble_eq_true rfl)⟩ (Nat.le_of_ble_eq_true rfl) rfl 43 rfl (by decide +kernel) [.int r45] rfl ?_
        refine v_istore C 5 [(5, .int r45), (4, .ref (G.1 + b33)), (0, .ref (G.1 + a0)), (1, .int x1), (2, .int x2), (3, .int x3)] (by decide) rfl 45 rfl (by decide +kernel) ?_
        refine v_iload C 5 0 rfl 47 rfl (by decide +kernel) ?_
        refine v_if_eq C 57 50 rfl (by decide +kernel) (fun h46 => ?_) (fun h46 => ?_)
        · have hf := ite2_t hf h46
          refine v_aload_n C 0 2 rfl 58 rfl (by decide +kernel) ?_
          refine v_aload C 4 1 rfl 60 rfl (by decide +kernel) ?_
          refine v_iload_n C 2 4 rfl 61 rfl (by decide +kernel) ?_
          obtain ⟨r48, σ47, hcr48, hf⟩ := cl2_e hf
          refine v_cV C 8 rfl (ns_kd_lt hk_a0 (by decide)) hk_a0 (by decide) [.ref (G.1 + b33), .int x2] [] (c_N_placesTold G l σ44 a0 b33 x2 hcr48) 299 2 tw_864 tw_861 tw_863 ts_62 tw_1 hd_N_placesTold rfl ⟨(Nat.le_of_ble_eq_true rfl), (Nat.le_of_ble_eq_true rfl)⟩ ⟨(Nat.le_of_ble_eq_true rfl), (Nat.le_of_ble_eq_true rfl)⟩ (Nat.le_of_ble_eq_true rfl) rfl 64 rfl (by decide +kernel) [.long r48] rfl ?_
          refine v_lstore C 6 [(6, .long r48), (5, .int r45), (4, .ref (G.1 + b33)), (0, .ref (G.1 + a0)), (1, .int x1), (2, .int x2), (3, .int x3)] (by decide) rfl 66 rfl (by decide +kernel) ?_
          refine v_lload C 6 0 rfl 68 rfl (by decide +kernel) ?_
          refine v_lconst C 0 (0) (by decide) 69 rfl (by decide +kernel) ?_
          refine v_lcmp C 70 rfl (by decide +kernel) ?_
          refine v_if_ne C 80 73 rfl (by decide +kernel) (fun h49 => ?_) (fun h49 => ?_)
          · have hf := ite2_f hf h49
            refine v_aload_n C 0 3 rfl 81 rfl (by decide +kernel) ?_
            refine v_lload C 6 0 rfl 83 rfl (by decide +kernel) ?_
            refine v_iload_n C 3 6 rfl 84 rfl (by decide +kernel) ?_
            refine v_iconst C (1) (1) (by decide) 85 rfl (by decide +kernel) ?_
            refine v_icmp_ne C 92 88 rfl (by decide +kernel) (fun h50 => ?_) (fun h50 => ?_)
            · have hf := ite2_f hf h50
              refine v_iconst C (0) (0) (by decide) 93 rfl (by decide +kernel) ?_
              obtain ⟨r52, σ51, hcr52, hf⟩ := cl2_e hf
              refine v_cV C 8 rfl (ns_kd_lt hk_a0 (by decide)) hk_a0 (by decide) [.long r48, .int (0 : Int32)] [] (c_N_pairsBy G l σ47 a0 r48 (0 : Int32) hcr52) 303 2 tw_868 tw_865 tw_867 ts_63 tw_1 hd_N_pairsBy rfl ⟨(Nat.le_of_ble_eq_true rfl), (Nat.le_of_ble_eq_true rfl)⟩ ⟨(Nat.le_of_ble_eq_true rfl), (Nat.le_of_ble_eq_true rfl)⟩ (Nat.le_of_ble_eq_true rfl) rfl 96 rfl (by decide +kernel) [.int r52] rfl ?_
              obtain ⟨rfl, rfl⟩ := ret_e hf
              exact v_iret C hr (by decide +kernel)
            · have hf := ite2_t hf h50
              refine v_iconst C (1) (1) (by decide) 89 rfl (by decide +kernel) ?_
              refine v_goto C 93 (by decide +kernel) ?_
              obtain ⟨r54, σ53, hcr54, hf⟩ := cl2_e hf
              refine v_cV C 8 rfl (ns_kd_lt hk_a0 (by decide)) hk_a0 (by decide) [.long r48, .int (1 : Int32)] [] (c_N_pairsBy G l σ47 a0 r48 (1 : Int32) hcr54) 303 2 tw_868 tw_865 tw_867 ts_63 tw_1 hd_N_pairsBy rfl ⟨(Nat.le_of_ble_eq_true rfl), (Nat.le_of_ble_eq_true rfl)⟩ ⟨(Nat.le_of_ble_eq_true rfl), (Nat.le_of_ble_eq_true rfl)⟩ (Nat.le_of_ble_eq_true rfl) rfl 96 rfl (by decide +kernel) [.int r54] rfl ?_
              obtain ⟨rfl, rfl⟩ := ret_e hf
              exact v_iret C hr (by decide +kernel)
          · have hf := ite2_t hf h49
            refine v_aload_n C 0 3 rfl 74 rfl (by decide +kernel) ?_
            refine v_bipush C (-2) (-2) (by decide) 76 rfl (by decide +kernel) ?_
            obtain ⟨r56, σ55, hcr56, hf⟩ := cl2_e hf
            refine v_cV C 8 rfl (ns_kd_lt hk_a0 (by decide)) hk_a0 (by decide) [.int (-2 : Int32)] [] (c_N_refuse G l σ47 a0 (-2 : Int32) hcr56) 79 1 tw_338 tw_335 tw_337 ts_1 tw_1 hd_N_refuse rfl ⟨(Nat.le_of_ble_eq_true rfl), (Nat.le_of_ble_eq_true rfl)⟩ ⟨(Nat.le_of_ble_eq_true rfl), (Nat.le_of_ble_eq_true rfl)⟩ (Nat.le_of_ble_eq_true rfl) rfl 79 rfl (by decide +kernel) [.int r56] rfl ?_
            obtain ⟨rfl, rfl⟩ := ret_e hf
            exact v_iret C hr (by decide +kernel)
        · have hf := ite2_f hf h46
          refine v_aload_n C 0 2 rfl 51 rfl (by decide +kernel) ?_
          refine v_iload C 5 0 rfl 53 rfl (by decide +kernel) ?_
          obtain ⟨r58, σ57, hcr58, hf⟩ := cl2_e hf
          refine v_cV C 8 rfl (ns_kd_lt hk_a0 (by decide)) hk_a0 (by decide) [.int r45] [] (c_N_refuse G l σ44 a0 r45 hcr58) 79 1 tw_338 tw_335 tw_337 ts_1 tw_1 hd_N_refuse rfl ⟨(Nat.le_of_ble_eq_true rfl), (Nat.le_of_ble_eq_true rfl)⟩ ⟨(Nat.le_of_ble_eq_true rfl), (Nat.le_of_ble_eq_true rfl)⟩ (Nat.le_of_ble_eq_true rfl) rfl 56 rfl (by decide +kernel) [.int r58] rfl ?_
          obtain ⟨rfl, rfl⟩ := ret_e hf
          exact v_iret C hr (by decide +kernel)
      · have hf := ite2_t hf h43
        refine v_aload_n C 0 1 rfl 32 rfl (by decide +kernel) ?_
        refine v_bipush C (-2) (-2) (by decide) 34 rfl (by decide +kernel) ?_
        obtain ⟨r60, σ59, hcr60, hf⟩ := cl2_e hf
        refine v_cV C 8 rfl (ns_kd_lt hk_a0 (by decide)) hk_a0 (by decide) [.int (-2 : Int32)] [] (c_N_refuse G l σ41 a0 (-2 : Int32) hcr60) 79 1 tw_338 tw_335 tw_337 ts_1 tw_1 hd_N_refuse rfl ⟨(Nat.le_of_ble_eq_true rfl), (Nat.le_of_ble_eq_true rfl)⟩ ⟨(Nat.le_of_ble_eq_true rfl), (Nat.le_of_ble_eq_true rfl)⟩ (Nat.le_of_ble_eq_true rfl) rfl 37 rfl (by decide +kernel) [.int r60] rfl ?_
        obtain ⟨rfl, rfl⟩ := ret_e hf
        exact v_iret C hr (by decide +kernel)
theorem hd_N_numbers : (⟨"NinthStep", "numbers", "(III)I"⟩ : MethodName).cls = "NinthStep" ∧ (⟨"NinthStep", "numbers", "(III)I"⟩ : MethodName).cls ≠ "java/lang/invoke/MethodHandle" ∧ (⟨"NinthStep", "numbers", "(III)I"⟩ : MethodName).cls ≠ "java/lang/invoke/VarHandle" ∧ (parseMethodDescriptor (⟨"NinthStep", "numbers", "(III)I"⟩ : MethodName).desc).map (fun d => d.parameters.length) = some 3 := by decide +kernel
def g_Chance_landing (σ : ns_St) (x0 : Int32) (x1 : Int32) : Option (Int32 × ns_St) := ite2 (x1 ≤ x0) (some ((0 : Int32), σ)) (ite2 (x0 ≤ (64 : Int32)) (some (x0, σ)) (some ((0 : Int32), σ)))
theorem c_Chance_landing (G : ns_G) (l : Launch) (σ : ns_St) (x0 : Int32) (x1 : Int32) {r : Int32} {σ' : ns_St} (hf : g_Chance_landing σ x0 x1 = some (r, σ')) : ns_ok G l ⟨"NinthStep$Chance", "landing", "(II)I"⟩ prog_2_method_4_code 2 (some .int) 0 0 0 0 [.int x0, .int x1] ns_N σ (some (.int r)) ns_N σ' := by
  refine v_open (by decide) (Nat.le_of_ble_eq_true rfl) rfl ?_
  intro p e s m below meth c C hr _
  have C : ns_Cx G p s m _ meth c prog_2_method_4_code "NinthStep$Chance" 2 := C
  unfold g_Chance_landing at hf
  refine v_iload_n C 0 0 rfl 1 rfl (by decide +kernel) ?_
  refine v_iload_n C 1 1 rfl 2 rfl (by decide +kernel) ?_
  refine v_icmp_ge C 11 5 rfl (by decide +kernel) (fun h3 => ?_) (fun h3 => ?_)
  · have hf := ite2_t hf h3
    refine v_iconst C (0) (0) (by decide) 12 rfl (by decide +kernel) ?_
    refine v_goto C 16 (by decide +kernel) ?_
    obtain ⟨rfl, rfl⟩ := ret_e hf
    exact v_iret C hr (by decide +kernel)
  · have hf := ite2_f hf h3
    refine v_iload_n C 0 0 rfl 6 rfl (by decide +kernel) ?_
    refine v_bipush C (64) (64) (by decide) 8 rfl (by decide +kernel) ?_
    refine v_icmp_le C 15 11 rfl (by decide +kernel) (fun h4 => ?_) (fun h4 => ?_)
    · have hf := ite2_t hf h4
      refine v_iload_n C 0 0 rfl 16 rfl (by decide +kernel) ?_
      obtain ⟨rfl, rfl⟩ := ret_e hf
      exact v_iret C hr (by decide +kernel)
    · have hf := ite2_f hf h4
      refine v_iconst C (0) (0) (by decide) 12 rfl (by decide +kernel) ?_
      refine v_goto C 16 (by decide +kernel) ?_
      obtain ⟨rfl, rfl⟩ := ret_e hf
      exact v_iret C hr (by decide +kernel)
theorem hd_Chance_landing : (⟨"NinthStep$Chance", "landing", "(II)I"⟩ : MethodName).cls ≠ "java/lang/invoke/MethodHandle" ∧ (⟨"NinthStep$Chance", "landing", "(II)I"⟩ : MethodName).cls ≠ "java/lang/invoke/VarHandle" ∧ (parseMethodDescriptor (⟨"NinthStep$Chance", "landing", "(II)I"⟩ : MethodName).desc).map (fun d => d.parameters.length) = some 2 := by decide +kernel
def g_Chance_spread_104  : Nat → ns_St → Nat → Int32 → Option (Unit × ns_St)
  | 0, _, _, _ => none
  | f + 1, σ, a0, x4 => ite2 ((64 : Int32) < x4) (some ((), σ)) (drf (σ.2.2 a0 0) fun b33 => grd (ns_kd b33 = 10) <| drf (σ.2.2 a0 1) fun b34 => grd (ns_kd b34 = 10) <| grd (ns_in x4 (ns_ln b34)) <| grd (ns_in x4 (ns_ln b33)) <| bnd (ns_pI σ b33 (ns_ix x4) (σ.1 b34 (ns_ix x4))) fun σ37 => bnd (x4 + 1) fun z38 => (g_Chance_spread_104 f) σ37 a0 z38)
def g_Chance_spread_27  : Nat → ns_St → Nat → Int32 → Int32 → Int32 → Int32 → Option (Unit × ns_St)
  | 0, _, _, _, _, _, _ => none
  | f + 1, σ, a0, x1, x2, x3, x4 => ite2 ((64 : Int32) < x4) (g_Chance_spread_104 ns_F σ a0 (0 : Int32)) (drf (σ.2.2 a0 0) fun b40 => grd (ns_kd b40 = 10) <| grd (ns_in x4 (ns_ln b40)) <| bnd (((σ.1 b40 (ns_ix x4)) * x3) / (1000 : Int32)) fun z42 => drf (σ.2.2 a0 1) fun b43 => grd (ns_kd b43 = 10) <| cl2 (g_Chance_landing σ (x4 + x1) x2) fun r45 σ44 => grd (ns_in r45 (ns_ln b43)) <| drf (σ44.2.2 a0 0) fun b47 => grd (ns_kd b47 = 10) <| grd (ns_in x4 (ns_ln b47)) <| grd (ns_in r45 (ns_ln b43)) <| bnd (ns_pI σ44 b43 (ns_ix r45) ((σ44.1 b43 (ns_ix r45)) + ((σ44.1 b47 (ns_ix x4)) - z42))) fun σ50 => drf (σ50.2.2 a0 1) fun b51 => grd (ns_kd b51 = 10) <| cl2 (g_Chance_landing σ50 ((x4 + x1) + (1 : Int32)) x2) fun r53 σ52 => grd (ns_in r53 (ns_ln b51)) <| grd (ns_in r53 (ns_ln b51)) <| bnd (ns_pI σ52 b51 (ns_ix r53) ((σ52.1 b51 (ns_ix r53)) + z42)) fun σ56 => bnd (x4 + 1) fun z57 => (g_Chance_spread_27 f) σ56 a0 x1 x2 x3 z57)
def g_Chance_spread_3  : Nat → ns_St → Nat → Int32 → Int32 → Int32 → Int32 → Option (Unit × ns_St)
  | 0, _, _, _, _, _, _ => none
  | f + 1, σ, a0, x1, x2, x3, x4 => ite2 ((64 : Int32) < x4) (g_Chance_spread_27 ns_F σ a0 x1 x2 x3 (0 : Int32)) (drf (σ.2.2 a0 1) fun b59 => grd (ns_kd b59 = 10) <| grd (ns_in x4 (ns_ln b59)) <| bnd (ns_pI σ b59 (ns_ix x4) (0 : Int32)) fun σ61 => bnd (x4 + 1) fun z62 => (g_Chance_spread_3 f) σ61 a0 x1 x2 x3 z62)
def g_Chance_spread (σ : ns_St) (a0 : Nat) (x1 : Int32) (x2 : Int32) (x3 : Int32) : Option (Unit × ns_St) := grd (ns_kd a0 = 0) <| g_Chance_spread_3 ns_F σ a0 x1 x2 x3 (0 : Int32)
theorem t_Chance_spread_104 (G : ns_G) (l : Launch) {p : Program} {e : Env} {s : State} {m : MethodId} {args : Array Value} {below : List Frame} {meth : Method} {c : Code} (C : ns_Cx G p s m args meth c prog_2_method_3_code "NinthStep$Chance" 6) (hr : meth.sig.returnType = none) {r : Unit} {σ' : ns_St}  : ∀ (f : Nat) (σ : ns_St) (a0 : Nat) (x4 : Int32) (hk_a0 : ns_kd a0 = 0), g_Chance_spread_104 f σ a0 x4 = some (r, σ') → VV G p l e { frames := 1, cells := 0, slots := 0, locals := 21 } s m args below meth c 6 0 0 (MQ below (ns_Qc G none ns_N σ') args s 0 0 (ns_A G)) ns_N σ 104 [(0, .ref (G.1 + a0)), (4, .int x4)] [] := by
  intro f
  induction f with
  | zero =>
    intro σ a0 x4 hk_a0 hf
    cases hf
  | succ f ih =>
    intro σ a0 x4 hk_a0 hf
    rw [g_Chance_spread_104] at hf
    refine v_iload C 4 1 rfl 106 rfl (by decide +kernel) ?_
    refine v_bipush C (64) (64) (by decide) 108 rfl (by decide +kernel) ?_
    refine v_icmp_gt C 131 111 rfl (by decide +kernel) (fun h32 => ?_) (fun h32 => ?_)
    · have hf := ite2_t hf h32
      obtain ⟨rfl, rfl⟩ := ret_e hf
      exact v_vret C hr (by decide +kernel)
    · have hf := ite2_f hf h32
      refine v_aload_n C 0 0 rfl 112 rfl (by decide +kernel) ?_
      obtain ⟨b33, hb33, hf⟩ := drf_e hf
      obtain ⟨hk_b33, hf⟩ := grd_e hf
      refine v_getR C 0 0 hb33 rfl nin_0 (ns_kd_lt hk_a0 (by decide)) hk_a0 (by decide) (by decide) rfl 9 tw_260 rfl 115 rfl (by decide +kernel) ?_
      refine v_iload C 4 1 rfl 117 rfl (by decide +kernel) ?_
      refine v_aload_n C 0 0 rfl 118 rfl (by decide +kernel) ?_
      obtain ⟨b34, hb34, hf⟩ := drf_e hf
      obtain ⟨hk_b34, hf⟩ := grd_e hf
      refine v_getR C 0 1 hb34 rfl nin_0 (ns_kd_lt hk_a0 (by decide)) hk_a0 (by decide) (by decide) rfl 15 tw_261 rfl 121 rfl (by decide +kernel) ?_
      refine v_iload C 4 1 rfl 123 rfl (by decide +kernel) ?_
      obtain ⟨hi35, hf⟩ := grd_e hf
      refine v_iald C (ns_kd_lt hk_b34 (by decide)) hk_b34 hi35 124 rfl (by decide +kernel) ?_
      obtain ⟨hi36, hf⟩ := grd_e hf
      obtain ⟨σ37, hσ37, hf⟩ := bnd_e hf
      refine v_iast C hσ37 (ns_kd_lt hk_b33 (by decide)) hk_b33 hi36 125 rfl (by decide +kernel) ?_
      obtain ⟨z38, hz38, hf⟩ := bnd_e hf
      refine v_iinc C 4 (1) 1 z38 rfl (by rw [hz38]; rfl) [(4, .int z38), (0, .ref (G.1 + a0))] (by decide) rfl 128 rfl (by decide +kernel) ?_
      refine v_goto C 104 (by decide +kernel) ?_
      refine v_sub [1, 0] rfl ?_
      exact ih σ37 a0 z38 hk_a0 hf
theorem t_Chance_spread_27 (G : ns_G) (l : Launch) {p : Program} {e : Env} {s : State} {m : MethodId} {args : Array Value} {below : List Frame} {meth : Method} {c : Code} (C : ns_Cx G p s m args meth c prog_2_method_3_code "NinthStep$Chance" 6) (hr : meth.sig.returnType = none) {r : Unit} {σ' : ns_St}  : ∀ (f : Nat) (σ : ns_St) (a0 : Nat) (x1 : Int32) (x2 : Int32) (x3 : Int32) (x4 : Int32) (hk_a0 : ns_kd a0 = 0), g_Chance_spread_27 f σ a0 x1 x2 x3 x4 = some (r, σ') → VV G p l e { frames := 1, cells := 0, slots := 0, locals := 21 } s m args below meth c 6 0 0 (MQ below (ns_Qc G none ns_N σ') args s 0 0 (ns_A G)) ns_N σ 27 [(0, .ref (G.1 + a0)), (1, .int x1), (2, .int x2), (3, .int x3), (4, .int x4)] [] := by
  intro f
  induction f with
  | zero =>
    intro σ a0 x1 x2 x3 x4 hk_a0 hf
    cases hf
  | succ f ih =>
    intro σ a0 x1 x2 x3 x4 hk_a0 hf
    rw [g_Chance_spread_27] at hf
    refine v_iload C 4 4 rfl 29 rfl (by decide +kernel) ?_
    refine v_bipush C (64) (64) (by decide) 31 rfl (by decide +kernel) ?_
    refine v_icmp_gt C 101 34 rfl (by decide +kernel) (fun h39 => ?_) (fun h39 => ?_)
    · have hf := ite2_t hf h39
      refine v_iconst C (0) (0) (by decide) 102 rfl (by decide +kernel) ?_
      refine v_istore C 4 [(4, .int (0 : Int32)), (0, .ref (G.1 + a0)), (1, .int x1), (2, .int x2), (3, .int x3)] (by decide) rfl 104 rfl (by decide +kernel) ?_
      refine v_sub [1, 0] rfl ?_
      exact t_Chance_spread_104 G l C hr  ns_F σ a0 (0 : Int32) hk_a0 hf
    · have hf := ite2_f hf h39
      refine v_aload_n C 0 0 rfl 35 rfl (by decide +kernel) ?_
      obtain ⟨b40, hb40, hf⟩ := drf_e hf
      obtain ⟨hk_b40, hf⟩ := grd_e hf
      refine v_getR C 0 0 hb40 rfl nin_0 (ns_kd_lt hk_a0 (by decide)) hk_a0 (by decide) (by decide) rfl 9 tw_260 rfl 38 rfl (by decide +kernel) ?_
      refine v_iload C 4 4 rfl 40 rfl (by decide +kernel) ?_
      obtain ⟨hi41, hf⟩ := grd_e hf
      refine v_iald C (ns_kd_lt hk_b40 (by decide)) hk_b40 hi41 41 rfl (by decide +kernel) ?_
      refine v_iload_n C 3 3 rfl 42 rfl (by decide +kernel) ?_
      refine v_imul C 43 rfl (by decide +kernel) ?_
      refine v_sipush C (1000) (1000) (by decide) 46 rfl (by decide +kernel) ?_
      refine v_idiv C (by decide) 47 rfl (by decide +kernel) ?_
      obtain ⟨z42, hz42, hf⟩ := bnd_e hf
      refine v_nmI hz42 ?_
      refine v_istore C 5 [(5, .int z42), (0, .ref (G.1 + a0)), (1, .int x1), (2, .int x2), (3, .int x3), (4, .int x4)] (by decide) rfl 49 rfl (by decide +kernel) ?_
      refine v_aload_n C 0 1 rfl 50 rfl (by decide +kernel) ?_
      obtain ⟨b43, hb43, hf⟩ := drf_e hf
      obtain ⟨hk_b43, hf⟩ := grd_e hf
      refine v_getR C 0 1 hb43 rfl nin_0 (ns_kd_lt hk_a0 (by decide)) hk_a0 (by decide) (by decide) rfl 15 tw_261 rfl 53 rfl (by decide +kernel) ?_
      refine v_iload C 4 5 rfl 55 rfl (by decide +kernel) ?_
      refine v_iload_n C 1 2 rfl 56 rfl (by decide +kernel) ?_
      refine v_iadd C 57 rfl (by decide +kernel) ?_
      refine v_iload_n C 2 3 rfl 58 rfl (by decide +kernel) ?_
      obtain ⟨r45, σ44, hcr45, hf⟩ := cl2_e hf
      refine v_cS C [.int (x4 + x1), .int x2] [.ref (G.1 + b43)] (c_Chance_landing G l σ (x4 + x1) x2 hcr45) 60 2 tw_892 tw_890 tw_891 tw_8 hd_Chance_landing rfl ⟨(Nat.le_of_ble_eq_true rfl), (Nat.le_of_ble_eq_true rfl)⟩ ⟨(Nat.le_of_ble_eq_true rfl), (Nat.le_of_ble_eq_true rfl)⟩ (Nat.le_of_ble_eq_true rfl) rfl 61 rfl (by decide +kernel) [.int r45, .ref (G.1 + b43)] rfl ?_
      refine v_dup2_11 C rfl rfl 62 rfl (by decide +kernel) ?_
      obtain ⟨hi46, hf⟩ := grd_e hf
      refine v_iald C (ns_kd_lt hk_b43 (by decide)) hk_b43 hi46 63 rfl (by decide +kernel) ?_
      refine v_aload_n C 0 1 rfl 64 rfl (by decide +kernel) ?_
      obtain ⟨b47, hb47, hf⟩ := drf_e hf
      obtain ⟨hk_b47, hf⟩ := grd_e hf
      refine v_getR C 0 0 hb47 rfl nin_0 (ns_kd_lt hk_a0 (by decide)) hk_a0 (by decide) (by decide) rfl 9 tw_260 rfl 67 rfl (by decide +kernel) ?_
      refine v_iload C 4 5 rfl 69 rfl (by decide +kernel) ?_
      obtain ⟨hi48, hf⟩ := grd_e hf
      refine v_iald C (ns_kd_lt hk_b47 (by decide)) hk_b47 hi48 70 rfl (by decide +kernel) ?_
      refine v_iload C 5 0 rfl 72 rfl (by decide +kernel) ?_
      refine v_isub C 73 rfl (by decide +kernel) ?_
      refine v_iadd C 74 rfl (by decide +kernel) ?_
      obtain ⟨hi49, hf⟩ := grd_e hf
      obtain ⟨σ50, hσ50, hf⟩ := bnd_e hf
      refine v_iast C hσ50 (ns_kd_lt hk_b43 (by decide)) hk_b43 hi49 75 rfl (by decide +kernel) ?_
      refine v_aload_n C 0 1 rfl 76 rfl (by decide +kernel) ?_
      obtain ⟨b51, hb51, hf⟩ := drf_e hf
      obtain ⟨hk_b51, hf⟩ := grd_e hf
      refine v_getR C 0 1 hb51 rfl nin_0 (ns_kd_lt hk_a0 (by decide)) hk_a0 (by decide) (by decide) rfl 15 tw_261 rfl 79 rfl (by decide +kernel) ?_
      refine v_iload C 4 5 rfl 81 rfl (by decide +kernel) ?_
      refine v_iload_n C 1 2 rfl 82 rfl (by decide +kernel) ?_
      refine v_iadd C 83 rfl (by decide +kernel) ?_
      refine v_iconst C (1) (1) (by decide) 84 rfl (by decide +kernel) ?_
      refine v_iadd C 85 rfl (by decide +kernel) ?_
      refine v_iload_n C 2 3 rfl 86 rfl (by decide +kernel) ?_
      obtain ⟨r53, σ52, hcr53, hf⟩ := cl2_e hf
      refine v_cS C [.int ((x4 + x1) + (1 : Int32)), .int x2] [.ref (G.1 + b51)] (c_Chance_landing G l σ50 ((x4 + x1) + (1 : Int32)) x2 hcr53) 60 2 tw_892 tw_890 tw_891 tw_8 hd_Chance_landing rfl ⟨(Nat.le_of_ble_eq_true rfl), (Nat.le_of_ble_eq_true rfl)⟩ ⟨(Nat.le_of_ble_eq_true rfl), (Nat.le_of_ble_eq_true rfl)⟩ (Nat.le_of_ble_eq_true rfl) rfl 89 rfl (by decide +kernel) [.int r53, .ref (G.1 + b51)] rfl ?_
      refine v_dup2_11 C rfl rfl 90 rfl (by decide +kernel) ?_
      obtain ⟨hi54, hf⟩ := grd_e hf
      refine v_iald C (ns_kd_lt hk_b51 (by decide)) hk_b51 hi54 91 rfl (by decide +kernel) ?_
      refine v_iload C 5 0 rfl 93 rfl (by decide +kernel) ?_
      refine v_iadd C 94 rfl (by decide +kernel) ?_
      obtain ⟨hi55, hf⟩ := grd_e hf
      obtain ⟨σ56, hσ56, hf⟩ := bnd_e hf
      refine v_iast C hσ56 (ns_kd_lt hk_b51 (by decide)) hk_b51 hi55 95 rfl (by decide +kernel) ?_
      obtain ⟨z57, hz57, hf⟩ := bnd_e hf
      refine v_iinc C 4 (1) 5 z57 rfl (by rw [hz57]; rfl) [(4, .int z57), (5, .int z42), (0, .ref (G.1 + a0)), (1, .int x1), (2, .int x2), (3, .int x3)] (by decide) rfl 98 rfl (by decide +kernel) ?_
      refine v_goto C 27 (by decide +kernel) ?_
      refine v_sub [2, 3, 4, 5, 0] rfl ?_
      exact ih σ56 a0 x1 x2 x3 z57 hk_a0 hf
theorem t_Chance_spread_3 (G : ns_G) (l : Launch) {p : Program} {e : Env} {s : State} {m : MethodId} {args : Array Value} {below : List Frame} {meth : Method} {c : Code} (C : ns_Cx G p s m args meth c prog_2_method_3_code "NinthStep$Chance" 6) (hr : meth.sig.returnType = none) {r : Unit} {σ' : ns_St}  : ∀ (f : Nat) (σ : ns_St) (a0 : Nat) (x1 : Int32) (x2 : Int32) (x3 : Int32) (x4 : Int32) (hk_a0 : ns_kd a0 = 0), g_Chance_spread_3 f σ a0 x1 x2 x3 x4 = some (r, σ') → VV G p l e { frames := 1, cells := 0, slots := 0, locals := 21 } s m args below meth c 6 0 0 (MQ below (ns_Qc G none ns_N σ') args s 0 0 (ns_A G)) ns_N σ 3 [(0, .ref (G.1 + a0)), (1, .int x1), (2, .int x2), (3, .int x3), (4, .int x4)] [] := by
  intro f
  induction f with
  | zero =>
    intro σ a0 x1 x2 x3 x4 hk_a0 hf
    cases hf
  | succ f ih =>
    intro σ a0 x1 x2 x3 x4 hk_a0 hf
    rw [g_Chance_spread_3] at hf
    refine v_iload C 4 4 rfl 5 rfl (by decide +kernel) ?_
    refine v_bipush C (64) (64) (by decide) 7 rfl (by decide +kernel) ?_
    refine v_icmp_gt C 24 10 rfl (by decide +kernel) (fun h58 => ?_) (fun h58 => ?_)
    · have hf := ite2_t hf h58
      refine v_iconst C (0) (0) (by decide) 25 rfl (by decide +kernel) ?_
      refine v_istore C 4 [(4, .int (0 : Int32)), (0, .ref (G.1 + a0)), (1, .int x1), (2, .int x2), (3, .int x3)] (by decide) rfl 27 rfl (by decide +kernel) ?_
      refine v_sub [1, 2, 3, 4, 0] rfl ?_
      exact t_Chance_spread_27 G l C hr  ns_F σ a0 x1 x2 x3 (0 : Int32) hk_a0 hf
    · have hf := ite2_f hf h58
      refine v_aload_n C 0 0 rfl 11 rfl (by decide +kernel) ?_
      obtain ⟨b59, hb59, hf⟩ := drf_e hf
      obtain ⟨hk_b59, hf⟩ := grd_e hf
      refine v_getR C 0 1 hb59 rfl nin_0 (ns_kd_lt hk_a0 (by decide)) hk_a0 (by decide) (by decide) rfl 15 tw_261 rfl 14 rfl (by decide +kernel) ?_
      refine v_iload C 4 4 rfl 16 rfl (by decide +kernel) ?_
      refine v_iconst C (0) (0) (by decide) 17 rfl (by decide +kernel) ?_
      obtain ⟨hi60, hf⟩ := grd_e hf
      obtain ⟨σ61, hσ61, hf⟩ := bnd_e hf
      refine v_iast C hσ61 (ns_kd_lt hk_b59 (by decide)) hk_b59 hi60 18 rfl (by decide +kernel) ?_
      obtain ⟨z62, hz62, hf⟩ := bnd_e hf
      refine v_iinc C 4 (1) 4 z62 rfl (by rw [hz62]; rfl) [(4, .int z62), (0, .ref (G.1 + a0)), (1, .int x1), (2, .int x2), (3, .int x3)] (by decide) rfl 21 rfl (by decide +kernel) ?_
      refine v_goto C 3 (by decide +kernel) ?_
      refine v_sub [1, 2, 3, 4, 0] rfl ?_
      exact ih σ61 a0 x1 x2 x3 z62 hk_a0 hf
theorem c_Chance_spread (G : ns_G) (l : Launch) (σ : ns_St) (a0 : Nat) (x1 : Int32) (x2 : Int32) (x3 : Int32) {r : Unit} {σ' : ns_St} (hf : g_Chance_spread σ a0 x1 x2 x3 = some (r, σ')) : ns_ok G l ⟨"NinthStep$Chance", "spread", "(III)V"⟩ prog_2_method_3_code 6 none 1 21 0 0 [.ref (G.1 + a0), .int x1, .int x2, .int x3] ns_N σ none ns_N σ' := by
  refine v_open (by decide) (Nat.le_of_ble_eq_true rfl) rfl ?_
  intro p e s m below meth c C hr _
  have C : ns_Cx G p s m _ meth c prog_2_method_3_code "NinthStep$Chance" 6 := C
  unfold g_Chance_spread at hf
  obtain ⟨hk_a0, hf⟩ := grd_e hf
  refine v_iconst C (0) (0) (by decide) 1 rfl (by decide +kernel) ?_
  refine v_istore C 4 [(4, .int (0 : Int32)), (0, .ref (G.1 + a0)), (1, .int x1), (2, .int x2), (3, .int x3)] (by decide) rfl 3 rfl (by decide +kernel) ?_
  refine v_sub [1, 2, 3, 4, 0] rfl ?_
  exact t_Chance_spread_3 G l C hr  ns_F σ a0 x1 x2 x3 (0 : Int32) hk_a0 hf
theorem hd_Chance_spread : (⟨"NinthStep$Chance", "spread", "(III)V"⟩ : MethodName).cls = "NinthStep$Chance" ∧ (⟨"NinthStep$Chance", "spread", "(III)V"⟩ : MethodName).cls ≠ "java/lang/invoke/MethodHandle" ∧ (⟨"NinthStep$Chance", "spread", "(III)V"⟩ : MethodName).cls ≠ "java/lang/invoke/VarHandle" ∧ (parseMethodDescriptor (⟨"NinthStep$Chance", "spread", "(III)V"⟩ : MethodName).desc).map (fun d => d.parameters.length) = some 3 := by decide +kernel
def g_Chance_unfallen_122  : Nat → ns_St → Nat → Int32 → Int32 → Option (Int32 × ns_St)
  | 0, _, _, _, _ => none
  | f + 1, σ, a0, x4, x5 => ite2 ((64 : Int32) < x5) (some (x4, σ)) (drf (σ.2.2 a0 0) fun b34 => grd (ns_kd b34 = 10) <| grd (ns_in x5 (ns_ln b34)) <| bnd (x4 + (σ.1 b34 (ns_ix x5))) fun z36 => bnd (x5 + 1) fun z37 => (g_Chance_unfallen_122 f) σ a0 z36 z37)
def g_Chance_unfallen_78 (kh52 : ns_St → Nat → Nat → Nat → Int32 → Int32 → Option (Int32 × ns_St)) (σ : ns_St) (s0 : Int32) (a0 : Nat) (a1 : Nat) (a2 : Nat) (x3 : Int32) (x4 : Int32) : Option (Int32 × ns_St) := cl2 (g_Chance_spread σ a0 s0 (σ.1 a1 1) x3) fun r39 σ38 => cl2 (g_N_isIn σ38 (σ38.2.1 a2 3) x4) fun r41 σ40 => ite2 (r41 = 0) (bnd (x4 + 1) fun z43 => kh52 σ40 a0 a1 a2 x3 z43) (drf (σ40.2.2 a0 0) fun b44 => grd (ns_kd b44 = 10) <| grd (ns_in (0 : Int32) (ns_ln b44)) <| bnd (ns_pI σ40 b44 (ns_ix (0 : Int32)) (0 : Int32)) fun σ46 => bnd (x4 + 1) fun z47 => kh52 σ46 a0 a1 a2 x3 z47)
def g_Chance_unfallen_52  : Nat → ns_St → Nat → Nat → Nat → Int32 → Int32 → Option (Int32 × ns_St)
  | 0, _, _, _, _, _, _ => none
  | f + 1, σ, a0, a1, a2, x3, x4 => ite2 ((σ.1 a2 0) < x4) (g_Chance_unfallen_122 ns_F σ a0 (0 : Int32) (0 : Int32)) (cl2 (g_N_isIn σ (σ.2.1 a2 1) x4) fun r50 σ49 => ite2 (r50 = 0) (g_Chance_unfallen_78 (g_Chance_unfallen_52 f) σ49 (1 : Int32) a0 a1 a2 x3 x4) (g_Chance_unfallen_78 (g_Chance_unfallen_52 f) σ49 (2 : Int32) a0 a1 a2 x3 x4))
def g_Chance_unfallen_3  : Nat → ns_St → Nat → Nat → Nat → Int32 → Int32 → Option (Int32 × ns_St)
  | 0, _, _, _, _, _, _ => none
  | f + 1, σ, a0, a1, a2, x3, x4 => ite2 ((64 : Int32) < x4) (drf (σ.2.2 a0 0) fun b53 => grd (ns_kd b53 = 10) <| cl2 (g_Math_min σ (σ.1 a1 3) (64 : Int32)) fun r55 σ54 => cl2 (g_Math_max σ54 (0 : Int32) r55) fun r57 σ56 => grd (ns_in r57 (ns_ln b53)) <| bnd (ns_pI σ56 b53 (ns_ix r57) (1000000 : Int32)) fun σ59 => bnd ((σ59.1 a1 2) + (1 : Int32)) fun z60 => g_Chance_unfallen_52 ns_F σ59 a0 a1 a2 x3 z60) (drf (σ.2.2 a0 0) fun b61 => grd (ns_kd b61 = 10) <| grd (ns_in x4 (ns_ln b61)) <| bnd (ns_pI σ b61 (ns_ix x4) (0 : Int32)) fun σ63 => bnd (x4 + 1) fun z64 => (g_Chance_unfallen_3 f) σ63 a0 a1 a2 x3 z64)
def g_Chance_unfallen (σ : ns_St) (a0 : Nat) (a1 : Nat) (a2 : Nat) (x3 : Int32) : Option (Int32 × ns_St) := grd (ns_kd a0 = 0) <| grd (ns_kd a1 = 2) <| grd (ns_kd a2 = 1) <| g_Chance_unfallen_3 ns_F σ a0 a1 a2 x3 (0 : Int32)
theorem t_Chance_unfallen_122 (G : ns_G) (l : Launch) {p : Program} {e : Env} {s : State} {m : MethodId} {args : Array Value} {below : List Frame} {meth : Method} {c : Code} (C : ns_Cx G p s m args meth c prog_2_method_2_code "NinthStep$Chance" 6) (hr : meth.sig.returnType = (some .int)) {r : Int32} {σ' : ns_St}  : ∀ (f : Nat) (σ : ns_St) (a0 : Nat) (x4 : Int32) (x5 : Int32) (hk_a0 : ns_kd a0 = 0), g_Chance_unfallen_122 f σ a0 x4 x5 = some (r, σ') → VV G p l e { frames := 2, cells := 0, slots := 0, locals := 46 } s m args below meth c 6 0 0 (MQ below (ns_Qc G (some (.int r)) ns_N σ') args s 0 0 (ns_A G)) ns_N σ 122 [(0, .ref (G.1 + a0)), (4, .int x4), (5, .int x5)] [] := by
  intro f
  induction f with
  | zero =>
    intro σ a0 x4 x5 hk_a0 hf
    cases hf
  | succ f ih =>
    intro σ a0 x4 x5 hk_a0 hf
    rw [g_Chance_unfallen_122] at hf
    refine v_iload C 5 2 rfl 124 rfl (by decide +kernel) ?_
    refine v_bipush C (64) (64) (by decide) 126 rfl (by decide +kernel) ?_
    refine v_icmp_gt C 147 129 rfl (by decide +kernel) (fun h33 => ?_) (fun h33 => ?_)
    · have hf := ite2_t hf h33
      refine v_iload C 4 1 rfl 149 rfl (by decide +kernel) ?_
      obtain ⟨rfl, rfl⟩ := ret_e hf
      exact v_iret C hr (by decide +kernel)
    · have hf := ite2_f hf h33
      refine v_iload C 4 1 rfl 131 rfl (by decide +kernel) ?_
      refine v_aload_n C 0 0 rfl 132 rfl (by decide +kernel) ?_
      obtain ⟨b34, hb34, hf⟩ := drf_e hf
      obtain ⟨hk_b34, hf⟩ := grd_e hf
      refine v_getR C 0 0 hb34 rfl nin_0 (ns_kd_lt hk_a0 (by decide)) hk_a0 (by decide) (by decide) rfl 9 tw_260 rfl 135 rfl (by decide +kernel) ?_
      refine v_iload C 5 2 rfl 137 rfl (by decide +kernel) ?_
      obtain ⟨hi35, hf⟩ := grd_e hf
      refine v_iald C (ns_kd_lt hk_b34 (by decide)) hk_b34 hi35 138 rfl (by decide +kernel) ?_
      refine v_iadd C 139 rfl (by decide +kernel) ?_
      obtain ⟨z36, hz36, hf⟩ := bnd_e hf
      refine v_nmI hz36 ?_
      refine v_istore C 4 [(4, .int z36), (0, .ref (G.1 + a0)), (5, .int x5)] (by decide) rfl 141 rfl (by decide +kernel) ?_
      obtain ⟨z37, hz37, hf⟩ := bnd_e hf
      refine v_iinc C 5 (1) 2 z37 rfl (by rw [hz37]; rfl) [(5, .int z37), (4, .int z36), (0, .ref (G.1 + a0))] (by decide) rfl 144 rfl (by decide +kernel) ?_
      refine v_goto C 122 (by decide +kernel) ?_
      refine v_sub [2, 1, 0] rfl ?_
      exact ih σ a0 z36 z37 hk_a0 hf
theorem t_Chance_unfallen_78 (G : ns_G) (l : Launch) {p : Program} {e : Env} {s : State} {m : MethodId} {args : Array Value} {below : List Frame} {meth : Method} {c : Code} (C : ns_Cx G p s m args meth c prog_2_method_2_code "NinthStep$Chance" 6) (hr : meth.sig.returnType = (some .int)) {r : Int32} {σ' : ns_St} {kh52 : ns_St → Nat → Nat → Nat → Int32 → Int32 → Option (Int32 × ns_St)} (hkh52 : ∀ (σ : ns_St) (a0 : Nat) (a1 : Nat) (a2 : Nat) (x3 : Int32) (x4 : Int32), ns_kd a0 = 0 → ns_kd a1 = 2 → ns_kd a2 = 1 → kh52 σ a0 a1 a2 x3 x4 = some (r, σ') → VV G p l e { frames := 2, cells := 0, slots := 0, locals := 46 } s m args below meth c 6 0 0 (MQ below (ns_Qc G (some (.int r)) ns_N σ') args s 0 0 (ns_A G)) ns_N σ 52 [(0, .ref (G.1 + a0)), (1, .ref (G.1 + a1)), (2, .ref (G.1 + a2)), (3, .int x3), (4, .int x4)] []) (σ : ns_St) (s0 : Int32) (a0 : Nat) (a1 : Nat) (a2 : Nat) (x3 : Int32) (x4 : Int32) (hk_a0 : ns_kd a0 = 0) (hk_a1 : ns_kd a1 = 2) (hk_a2 : ns_kd a2 = 1) (hf : g_Chance_unfallen_78 kh52 σ s0 a0 a1 a2 x3 x4 = some (r, σ')) : VV G p l e { frames := 2, cells := 0, slots := 0, locals := 46 } s m args below meth c 6 0 0 (MQ below (ns_Qc G (some (.int r)) ns_N σ') args s 0 0 (ns_A G)) ns_N σ 78 [(0, .ref (G.1 + a0)), (1, .ref (G.1 + a1)), (2, .ref (G.1 + a2)), (3, .int x3), (4, .int x4)] [.int s0] := by
  unfold g_Chance_unfallen_78 at hf
  refine v_istore C 5 [(5, .int s0), (0, .ref (G.1 + a0)), (1, .ref (G.1 + a1)), (2, .ref (G.1 + a2)), (3, .int x3), (4, .int x4)] (by decide) rfl 80 rfl (by decide +kernel) ?_
  refine v_aload_n C 0 1 rfl 81 rfl (by decide +kernel) ?_
  refine v_iload C 5 0 rfl 83 rfl (by decide +kernel) ?_
  refine v_aload_n C 1 2 rfl 84 rfl (by decide +kernel) ?_
  refine v_getIN C 2 1 rfl nin_2 (ns_kd_lt hk_a1 (by decide)) hk_a1 (by decide) (by decide) rfl 50 tw_85 rfl 87 rfl (by decide +kernel) ?_
  refine v_iload_n C 3 4 rfl 88 rfl (by decide +kernel) ?_
  obtain ⟨r39, σ38, hcr39, hf⟩ := cl2_e hf
  refine v_cV C 0 rfl (ns_kd_lt hk_a0 (by decide)) hk_a0 (by decide) [.int s0, .int (σ.1 a1 1), .int x3] [] (c_Chance_spread G l σ a0 s0 (σ.1 a1 1) x3 hcr39) 53 3 tw_889 tw_886 tw_888 ts_66 tw_8 hd_Chance_spread rfl ⟨(Nat.le_of_ble_eq_true rfl), (Nat.le_of_ble_eq_true rfl)⟩ ⟨(Nat.le_of_ble_eq_true rfl), (Nat.le_of_ble_eq_true rfl)⟩ (Nat.le_of_ble_eq_true rfl) rfl 91 rfl (by decide +kernel) [] rfl ?_
  refine v_aload_n C 2 3 rfl 92 rfl (by decide +kernel) ?_
  refine v_getJN C 1 3 rfl nin_1 (ns_kd_lt hk_a2 (by decide)) hk_a2 (by decide) (by decide) rfl 57 tw_55 rfl 95 rfl (by decide +kernel) ?_
  refine v_iload C 4 5 rfl 97 rfl (by decide +kernel) ?_
  obtain ⟨r41, σ40, hcr41, hf⟩ := cl2_e hf
  refine v_cSN C [.long (σ38.2.1 a2 3), .int x4] [] (c_N_isIn G l σ38 (σ38.2.1 a2 3) x4 hcr41) 46 2 tw_455 tw_885 tw_454 tw_1 hd_N_isIn rfl ⟨(Nat.le_of_ble_eq_true rfl), (Nat.le_of_ble_eq_true rfl)⟩ ⟨(Nat.le_of_ble_eq_true rfl), (Nat.le_of_ble_eq_true rfl)⟩ (Nat.le_of_ble_eq_true rfl) rfl 100 rfl (by decide +kernel) [.int r41] rfl ?_
  refine v_if_eq C 110 103 rfl (by decide +kernel) (fun h42 => ?_) (fun h42 => ?_)
  · have hf := ite2_t hf h42
    obtain ⟨z43, hz43, hf⟩ := bnd_e hf
    refine v_iinc C 4 (1) 5 z43 rfl (by rw [hz43]; rfl) [(4, .int z43), (5, .int s0), (0, .ref (G.1 + a0)), (1, .ref (G.1 + a1)), (2, .ref (G.1 + a2)), (3, .int x3)] (by decide) rfl 113 rfl (by decide +kernel) ?_
    refine v_goto C 52 (by decide +kernel) ?_
    refine v_sub [2, 3, 4, 5, 0] rfl ?_
    exact hkh52 σ40 a0 a1 a2 x3 z43 hk_a0 hk_a1 hk_a2 hf
  · have hf := ite2_f hf h42
    refine v_aload_n C 0 1 rfl 104 rfl (by decide +kernel) ?_
    obtain ⟨b44, hb44, hf⟩ := drf_e hf
    obtain ⟨hk_b44, hf⟩ := grd_e hf
    refine v_getR C 0 0 hb44 rfl nin_0 (ns_kd_lt hk_a0 (by decide)) hk_a0 (by decide) (by decide) rfl 9 tw_260 rfl 107 rfl (by decide +kernel) ?_
    refine v_iconst C (0) (0) (by decide) 108 rfl (by decide +kernel) ?_
    refine v_iconst C (0) (0) (by decide) 109 rfl (by decide +kernel) ?_
    obtain ⟨hi45, hf⟩ := grd_e hf
    obtain ⟨σ46, hσ46, hf⟩ := bnd_e hf
    refine v_iast C hσ46 (ns_kd_lt hk_b44 (by decide)) hk_b44 hi45 110 rfl (by decide +kernel) ?_
    obtain ⟨z47, hz47, hf⟩ := bnd_e hf
    refine v_iinc C 4 (1) 5 z47 rfl (by rw [hz47]; rfl) [(4, .int z47), (5, .int s0), (0, .ref (G.1 + a0)), (1, .ref (G.1 + a1)), (2, .ref (G.1 + a2)), (3, .int x3)] (by decide) rfl 113 rfl (by decide +kernel) ?_
    refine v_goto C 52 (by decide +kernel) ?_
    refine v_sub [2, 3, 4, 5, 0] rfl ?_
    exact hkh52 σ46 a0 a1 a2 x3 z47 hk_a0 hk_a1 hk_a2 hf
theorem t_Chance_unfallen_52 (G : ns_G) (l : Launch) {p : Program} {e : Env} {s : State} {m : MethodId} {args : Array Value} {below : List Frame} {meth : Method} {c : Code} (C : ns_Cx G p s m args meth c prog_2_method_2_code "NinthStep$Chance" 6) (hr : meth.sig.returnType = (some .int)) {r : Int32} {σ' : ns_St}  : ∀ (f : Nat) (σ : ns_St) (a0 : Nat) (a1 : Nat) (a2 : Nat) (x3 : Int32) (x4 : Int32) (hk_a0 : ns_kd a0 = 0) (hk_a1 : ns_kd a1 = 2) (hk_a2 : ns_kd a2 = 1), g_Chance_unfallen_52 f σ a0 a1 a2 x3 x4 = some (r, σ') → VV G p l e { frames := 2, cells := 0, slots := 0, locals := 46 } s m args below meth c 6 0 0 (MQ below (ns_Qc G (some (.int r)) ns_N σ') args s 0 0 (ns_A G)) ns_N σ 52 [(0, .ref (G.1 + a0)), (1, .ref (G.1 + a1)), (2, .ref (G.1 + a2)), (3, .int x3), (4, .int x4)] [] := by
  intro f
  induction f with
  | zero =>
    intro σ a0 a1 a2 x3 x4 hk_a0 hk_a1 hk_a2 hf
    cases hf
  | succ f ih =>
    intro σ a0 a1 a2 x3 x4 hk_a0 hk_a1 hk_a2 hf
    rw [g_Chance_unfallen_52] at hf
    refine v_iload C 4 4 rfl 54 rfl (by decide +kernel) ?_
    refine v_aload_n C 2 2 rfl 55 rfl (by decide +kernel) ?_
    refine v_getIN C 1 0 rfl nin_1 (ns_kd_lt hk_a2 (by decide)) hk_a2 (by decide) (by decide) rfl 37 tw_41 rfl 58 rfl (by decide +kernel) ?_
    refine v_icmp_gt C 116 61 rfl (by decide +kernel) (fun h48 => ?_) (fun h48 => ?_)
    · have hf := ite2_t hf h48
      refine v_iconst C (0) (0) (by decide) 117 rfl (by decide +kernel) ?_
      refine v_istore C 4 [(4, .int (0 : Int32)), (0, .ref (G.1 + a0)), (1, .ref (G.1 + a1)), (2, .ref (G.1 + a2)), (3, .int x3)] (by decide) rfl 119 rfl (by decide +kernel) ?_
      refine v_iconst C (0) (0) (by decide) 120 rfl (by decide +kernel) ?_
      refine v_istore C 5 [(5, .int (0 : Int32)), (4, .int (0 : Int32)), (0, .ref (G.1 + a0)), (1, .ref (G.1 + a1)), (2, .ref (G.1 + a2)), (3, .int x3)] (by decide) rfl 122 rfl (by decide +kernel) ?_
      refine v_sub [2, 1, 0] rfl ?_
      exact t_Chance_unfallen_122 G l C hr  ns_F σ a0 (0 : Int32) (0 : Int32) hk_a0 hf
    · have hf := ite2_f hf h48
      refine v_aload_n C 2 2 rfl 62 rfl (by decide +kernel) ?_
      refine v_getJN C 1 1 rfl nin_1 (ns_kd_lt hk_a2 (by decide)) hk_a2 (by decide) (by decide) rfl 42 tw_47 rfl 65 rfl (by decide +kernel) ?_
      refine v_iload C 4 4 rfl 67 rfl (by decide +kernel) ?_
      obtain ⟨r50, σ49, hcr50, hf⟩ := cl2_e hf
      refine v_cSN C [.long (σ.2.1 a2 1), .int x4] [] (c_N_isIn G l σ (σ.2.1 a2 1) x4 hcr50) 46 2 tw_455 tw_885 tw_454 tw_1 hd_N_isIn rfl ⟨(Nat.le_of_ble_eq_true rfl), (Nat.le_of_ble_eq_true rfl)⟩ ⟨(Nat.le_of_ble_eq_true rfl), (Nat.le_of_ble_eq_true rfl)⟩ (Nat.le_of_ble_eq_true rfl) rfl 70 rfl (by decide +kernel) [.int r50] rfl ?_
      refine v_if_eq C 77 73 rfl (by decide +kernel) (fun h51 => ?_) (fun h51 => ?_)
      · have hf := ite2_t hf h51
        refine v_iconst C (1) (1) (by decide) 78 rfl (by decide +kernel) ?_
        exact t_Chance_unfallen_78 G l C hr ih σ49 (1 : Int32) a0 a1 a2 x3 x4 hk_a0 hk_a1 hk_a2 hf
      · have hf := ite2_f hf h51
        refine v_iconst C (2) (2) (by decide) 74 rfl (by decide +kernel) ?_
        refine v_goto C 78 (by decide +kernel) ?_
        exact t_Chance_unfallen_78 G l C hr ih σ49 (2 : Int32) a0 a1 a2 x3 x4 hk_a0 hk_a1 hk_a2 hf
theorem t_Chance_unfallen_3 (G : ns_G) (l : Launch) {p : Program} {e : Env} {s : State} {m : MethodId} {args : Array Value} {below : List Frame} {meth : Method} {c : Code} (C : ns_Cx G p s m args meth c prog_2_method_2_code "NinthStep$Chance" 6) (hr : meth.sig.returnType = (some .int)) {r : Int32} {σ' : ns_St}  : ∀ (f : Nat) (σ : ns_St) (a0 : Nat) (a1 : Nat) (a2 : Nat) (x3 : Int32) (x4 : Int32) (hk_a0 : ns_kd a0 = 0) (hk_a1 : ns_kd a1 = 2) (hk_a2 : ns_kd a2 = 1), g_Chance_unfallen_3 f σ a0 a1 a2 x3 x4 = some (r, σ') → VV G p l e { frames := 2, cells := 0, slots := 0, locals := 46 } s m args below meth c 6 0 0 (MQ below (ns_Qc G (some (.int r)) ns_N σ') args s 0 0 (ns_A G)) ns_N σ 3 [(0, .ref (G.1 + a0)), (1, .ref (G.1 + a1)), (2, .ref (G.1 + a2)), (3, .int x3), (4, .int x4)] [] := by
  intro f
  induction f with
  | zero =>
    intro σ a0 a1 a2 x3 x4 hk_a0 hk_a1 hk_a2 hf
    cases hf
  | succ f ih =>
    intro σ a0 a1 a2 x3 x4 hk_a0 hk_a1 hk_a2 hf
    rw [g_Chance_unfallen_3] at hf
    refine v_iload C 4 4 rfl 5 rfl (by decide +kernel) ?_
    refine v_bipush C (64) (64) (by decide) 7 rfl (by decide +kernel) ?_
    refine v_icmp_gt C 24 10 rfl (by decide +kernel) (fun h52 => ?_) (fun h52 => ?_)
    · have hf := ite2_t hf h52
      refine v_aload_n C 0 0 rfl 25 rfl (by decide +kernel) ?_
      obtain ⟨b53, hb53, hf⟩ := drf_e hf
      obtain ⟨hk_b53, hf⟩ := grd_e hf
      refine v_getR C 0 0 hb53 rfl nin_0 (ns_kd_lt hk_a0 (by decide)) hk_a0 (by decide) (by decide) rfl 9 tw_260 rfl 28 rfl (by decide +kernel) ?_
      refine v_iconst C (0) (0) (by decide) 29 rfl (by decide +kernel) ?_
      refine v_aload_n C 1 1 rfl 30 rfl (by decide +kernel) ?_
      refine v_getIN C 2 3 rfl nin_2 (ns_kd_lt hk_a1 (by decide)) hk_a1 (by decide) (by decide) rfl 18 tw_95 rfl 33 rfl (by decide +kernel) ?_
      refine v_bipush C (64) (64) (by decide) 35 rfl (by decide +kernel) ?_
      obtain ⟨r55, σ54, hcr55, hf⟩ := cl2_e hf
      refine v_cS C [.int (σ.1 a1 3), .int (64 : Int32)] [.int (0 : Int32), .ref (G.1 + b53)] (c_Math_min G l σ (σ.1 a1 3) (64 : Int32) hcr55) 24 2 tw_663 tw_882 tw_662 tw_18 hd_Math_min rfl ⟨(Nat.le_of_ble_eq_true rfl), (Nat.le_of_ble_eq_true rfl)⟩ ⟨(Nat.le_of_ble_eq_true rfl), (Nat.le_of_ble_eq_true rfl)⟩ (Nat.le_of_ble_eq_true rfl) rfl 38 rfl (by decide +kernel) [.int r55, .int (0 : Int32), .ref (G.1 + b53)] rfl ?_
      obtain ⟨r57, σ56, hcr57, hf⟩ := cl2_e hf
      refine v_cS C [.int (0 : Int32), .int r55] [.ref (G.1 + b53)] (c_Math_max G l σ54 (0 : Int32) r55 hcr57) 30 2 tw_598 tw_883 tw_597 tw_18 hd_Math_max rfl ⟨(Nat.le_of_ble_eq_true rfl), (Nat.le_of_ble_eq_true rfl)⟩ ⟨(Nat.le_of_ble_eq_true rfl), (Nat.le_of_ble_eq_true rfl)⟩ (Nat.le_of_ble_eq_true rfl) rfl 41 rfl (by decide +kernel) [.int r57, .ref (G.1 + b53)] rfl ?_
      refine v_ldc C 33 (1000000) tw_884 43 rfl (by decide +kernel) ?_
      obtain ⟨hi58, hf⟩ := grd_e hf
      obtain ⟨σ59, hσ59, hf⟩ := bnd_e hf
      refine v_iast C hσ59 (ns_kd_lt hk_b53 (by decide)) hk_b53 hi58 44 rfl (by decide +kernel) ?_
      refine v_aload_n C 1 1 rfl 45 rfl (by decide +kernel) ?_
      refine v_getIN C 2 2 rfl nin_2 (ns_kd_lt hk_a1 (by decide)) hk_a1 (by decide) (by decide) rfl 34 tw_89 rfl 48 rfl (by decide +kernel) ?_
      refine v_iconst C (1) (1) (by decide) 49 rfl (by decide +kernel) ?_
      refine v_iadd C 50 rfl (by decide +kernel) ?_
      obtain ⟨z60, hz60, hf⟩ := bnd_e hf
      refine v_nmI hz60 ?_
      refine v_istore C 4 [(4, .int z60), (0, .ref (G.1 + a0)), (1, .ref (G.1 + a1)), (2, .ref (G.1 + a2)), (3, .int x3)] (by decide) rfl 52 rfl (by decide +kernel) ?_
      refine v_sub [1, 2, 3, 4, 0] rfl ?_
      exact t_Chance_unfallen_52 G l C hr  ns_F σ59 a0 a1 a2 x3 z60 hk_a0 hk_a1 hk_a2 hf
    · have hf := ite2_f hf h52
      refine v_aload_n C 0 0 rfl 11 rfl (by decide +kernel) ?_
      obtain ⟨b61, hb61, hf⟩ := drf_e hf
      obtain ⟨hk_b61, hf⟩ := grd_e hf
      refine v_getR C 0 0 hb61 rfl nin_0 (ns_kd_lt hk_a0 (by decide)) hk_a0 (by decide) (by decide) rfl 9 tw_260 rfl 14 rfl (by decide +kernel) ?_
      refine v_iload C 4 4 rfl 16 rfl (by decide +kernel) ?_
      refine v_iconst C (0) (0) (by decide) 17 rfl (by decide +kernel) ?_
      obtain ⟨hi62, hf⟩ := grd_e hf
      obtain ⟨σ63, hσ63, hf⟩ := bnd_e hf
      refine v_iast C hσ63 (ns_kd_lt hk_b61 (by decide)) hk_b61 hi62 18 rfl (by decide +kernel) ?_
      obtain ⟨z64, hz64, hf⟩ := bnd_e hf
      refine v_iinc C 4 (1) 4 z64 rfl (by rw [hz64]; rfl) [(4, .int z64), (0, .ref (G.1 + a0)), (1, .ref (G.1 + a1)), (2, .ref (G.1 + a2)), (3, .int x3)] (by decide) rfl 21 rfl (by decide +kernel) ?_
      refine v_goto C 3 (by decide +kernel) ?_
      refine v_sub [1, 2, 3, 4, 0] rfl ?_
      exact ih σ63 a0 a1 a2 x3 z64 hk_a0 hk_a1 hk_a2 hf
theorem c_Chance_unfallen (G : ns_G) (l : Launch) (σ : ns_St) (a0 : Nat) (a1 : Nat) (a2 : Nat) (x3 : Int32) {r : Int32} {σ' : ns_St} (hf : g_Chance_unfallen σ a0 a1 a2 x3 = some (r, σ')) : ns_ok G l ⟨"NinthStep$Chance", "unfallen", "(LNinthStep$Mule;LNinthStep$Ground;I)I"⟩ prog_2_method_2_code 6 (some .int) 2 46 0 0 [.ref (G.1 + a0), .ref (G.1 + a1), .ref (G.1 + a2), .int x3] ns_N σ (some (.int r)) ns_N σ' := by
  refine v_open (by decide) (Nat.le_of_ble_eq_true rfl) rfl ?_
  intro p e s m below meth c C hr _
  have C : ns_Cx G p s m _ meth c prog_2_method_2_code "NinthStep$Chance" 6 := C
  unfold g_Chance_unfallen at hf
  obtain ⟨hk_a0, hf⟩ := grd_e hf
  obtain ⟨hk_a1, hf⟩ := grd_e hf
  obtain ⟨hk_a2, hf⟩ := grd_e hf
  refine v_iconst C (0) (0) (by decide) 1 rfl (by decide +kernel) ?_
  refine v_istore C 4 [(4, .int (0 : Int32)), (0, .ref (G.1 + a0)), (1, .ref (G.1 + a1)), (2, .ref (G.1 + a2)), (3, .int x3)] (by decide) rfl 3 rfl (by decide +kernel) ?_
  refine v_sub [1, 2, 3, 4, 0] rfl ?_
  exact t_Chance_unfallen_3 G l C hr  ns_F σ a0 a1 a2 x3 (0 : Int32) hk_a0 hk_a1 hk_a2 hf
theorem hd_Chance_unfallen : (⟨"NinthStep$Chance", "unfallen", "(LNinthStep$Mule;LNinthStep$Ground;I)I"⟩ : MethodName).cls = "NinthStep$Chance" ∧ (⟨"NinthStep$Chance", "unfallen", "(LNinthStep$Mule;LNinthStep$Ground;I)I"⟩ : MethodName).cls ≠ "java/lang/invoke/MethodHandle" ∧ (⟨"NinthStep$Chance", "unfallen", "(LNinthStep$Mule;LNinthStep$Ground;I)I"⟩ : MethodName).cls ≠ "java/lang/invoke/VarHandle" ∧ (parseMethodDescriptor (⟨"NinthStep$Chance", "unfallen", "(LNinthStep$Mule;LNinthStep$Ground;I)I"⟩ : MethodName).desc).map (fun d => d.parameters.length) = some 3 := by decide +kernel
def g_N_sure (σ : ns_St) (a0 : Nat) (x1 : Int32) (x2 : Int32) : Option (Int32 × ns_St) := grd (ns_kd a0 = 8) <| drf (σ.2.2 a0 0) fun b17 => grd (ns_kd b17 = 7) <| cl2 (g_World_muleAt σ b17 x1) fun r19 σ18 => onul r19 (cl2 (g_N_refuse σ18 a0 (-2 : Int32)) fun r22 σ21 => some (r22, σ21)) (fun b20 => grd (ns_kd b20 = 2) <| cl2 (g_N_isWithin σ18 x2 (0 : Int32) (1000 : Int32)) fun r24 σ23 => ite2 (r24 = 0) (cl2 (g_N_refuse σ23 a0 (-2 : Int32)) fun r32 σ31 => some (r32, σ31)) (drf (σ23.2.2 a0 7) fun b26 => grd (ns_kd b26 = 0) <| drf (σ23.2.2 a0 0) fun b27 => grd (ns_kd b27 = 7) <| drf (σ23.2.2 b27 0) fun b28 => grd (ns_kd b28 = 1) <| cl2 (g_Chance_unfallen σ23 b26 b20 b28 x2) fun r30 σ29 => some (r30, σ29)))
theorem c_N_sure (G : ns_G) (l : Launch) (σ : ns_St) (a0 : Nat) (x1 : Int32) (x2 : Int32) {r : Int32} {σ' : ns_St} (hf : g_N_sure σ a0 x1 x2 = some (r, σ')) : ns_ok G l ⟨"NinthStep", "sure", "(II)I"⟩ prog_1_method_35_code 4 (some .int) 3 71 0 0 [.ref (G.1 + a0), .int x1, .int x2] ns_N σ (some (.int r)) ns_N σ' := by
  refine v_open (by decide) (Nat.le_of_ble_eq_true rfl) rfl ?_
  intro p e s m below meth c C hr _
  have C : ns_Cx G p s m _ meth c prog_1_method_35_code "NinthStep" 4 := C
  unfold g_N_sure at hf
  obtain ⟨hk_a0, hf⟩ := grd_e hf
  refine v_aload_n C 0 0 rfl 1 rfl (by decide +kernel) ?_
  obtain ⟨b17, hb17, hf⟩ := drf_e hf
  obtain ⟨hk_b17, hf⟩ := grd_e hf
  refine v_getR C 8 0 hb17 rfl nin_8 (ns_kd_lt hk_a0 (by decide)) hk_a0 (by decide) (by decide) rfl 12 tw_287 rfl 4 rfl (by decide +kernel) ?_
  refine v_iload_n C 1 1 rfl 5 rfl (by decide +kernel) ?_
  obtain ⟨r19, σ18, hcr19, hf⟩ := cl2_e hf
  rcases r19 with _ | b20
  · have hf := onul_n hf
    refine v_cVN C 7 rfl (ns_kd_lt hk_b17 (by decide)) hk_b17 (by decide) [.int x1] [] (c_World_muleAt G l σ b17 x1 hcr19) 120 1 tw_390 tw_387 tw_389 ts_7 tw_2 hd_World_muleAt rfl ⟨(Nat.le_of_ble_eq_true rfl), (Nat.le_of_ble_eq_true rfl)⟩ ⟨(Nat.le_of_ble_eq_true rfl), (Nat.le_of_ble_eq_true rfl)⟩ (Nat.le_of_ble_eq_true rfl) rfl 8 rfl (by decide +kernel) [.null] rfl ?_
    refine v_astore_nN C 3 [(3, .null), (0, .ref (G.1 + a0)), (1, .int x1), (2, .int x2)] (by decide) rfl 9 rfl (by decide +kernel) ?_
    refine v_aload_nN C 3 0 rfl 10 rfl (by decide +kernel) ?_
    refine v_ifnullN C 24 (by decide +kernel) ?_
    refine v_aload_n C 0 1 rfl 25 rfl (by decide +kernel) ?_
    refine v_bipush C (-2) (-2) (by decide) 27 rfl (by decide +kernel) ?_
    obtain ⟨r22, σ21, hcr22, hf⟩ := cl2_e hf
    refine v_cV C 8 rfl (ns_kd_lt hk_a0 (by decide)) hk_a0 (by decide) [.int (-2 : Int32)] [] (c_N_refuse G l σ18 a0 (-2 : Int32) hcr22) 79 1 tw_338 tw_335 tw_337 ts_1 tw_1 hd_N_refuse rfl ⟨(Nat.le_of_ble_eq_true rfl), (Nat.le_of_ble_eq_true rfl)⟩ ⟨(Nat.le_of_ble_eq_true rfl), (Nat.le_of_ble_eq_true rfl)⟩ (Nat.le_of_ble_eq_true rfl) rfl 30 rfl (by decide +kernel) [.int r22] rfl ?_
    obtain ⟨rfl, rfl⟩ := ret_e hf
    exact v_iret C hr (by decide +kernel)
  · have hf := onul_s hf
    obtain ⟨hk_b20, hf⟩ := grd_e hf
    refine v_cVN C 7 rfl (ns_kd_lt hk_b17 (by decide)) hk_b17 (by decide) [.int x1] [] (c_World_muleAt G l σ b17 x1 hcr19) 120 1 tw_390 tw_387 tw_389 ts_7 tw_2 hd_World_muleAt rfl ⟨(Nat.le_of_ble_eq_true rfl), (Nat.le_of_ble_eq_true rfl)⟩ ⟨(Nat.le_of_ble_eq_true rfl), (Nat.le_of_ble_eq_true rfl)⟩ (Nat.le_of_ble_eq_true rfl) rfl 8 rfl (by decide +kernel) [.ref (G.1 + b20)] rfl ?_
    refine v_astore_n C 3 [(3, .ref (G.1 + b20)), (0, .ref (G.1 + a0)), (1, .int x1), (2, .int x2)] (by decide) rfl 9 rfl (by decide +kernel) ?_
    refine v_aload_n C 3 0 rfl 10 rfl (by decide +kernel) ?_
    refine v_ifnull C 24 13 rfl (by decide +kernel) ?_
    refine v_iload_n C 2 3 rfl 14 rfl (by decide +kernel) ?_
    refine v_iconst C (0) (0) (by decide) 15 rfl (by decide +kernel) ?_
    refine v_sipush C (1000) (1000) (by decide) 18 rfl (by decide +kernel) ?_
    obtain ⟨r24, σ23, hcr24, hf⟩ := cl2_e hf
    refine v_cS C [.int x2, .int (0 : Int32), .int (1000 : Int32)] [] (c_N_isWithin G l σ18 x2 (0 : Int32) (1000 : Int32) hcr24) 75 3 tw_334 tw_332 tw_333 tw_1 hd_N_isWithin rfl ⟨(Nat.le_of_ble_eq_true rfl), (Nat.le_of_ble_eq_true rfl)⟩ ⟨(Nat.le_of_ble_eq_true rfl), (Nat.le_of_ble_eq_true rfl)⟩ (Nat.le_of_ble_eq_true rfl) rfl 21 rfl (by decide +kernel) [.int r24] rfl ?_
    refine v_if_ne C 31 24 rfl (by decide +kernel) (fun h25 => ?_) (fun h25 => ?_)
    · have hf := ite2_f hf h25
      refine v_aload_n C 0 1 rfl 32 rfl (by decide +kernel) ?_
      obtain ⟨b26, hb26, hf⟩ := drf_e hf
      obtain ⟨hk_b26, hf⟩ := grd_e hf
      refine v_getR C 8 7 hb26 rfl nin_8 (ns_kd_lt hk_a0 (by decide)) hk_a0 (by decide) (by decide) rfl 52 tw_294 rfl 35 rfl (by decide +kernel) ?_
      refine v_aload_n C 3 0 rfl 36 rfl (by decide +kernel) ?_
      refine v_aload_n C 0 1 rfl 37 rfl (by decide +kernel) ?_
      obtain ⟨b27, hb27, hf⟩ := drf_e hf
      obtain ⟨hk_b27, hf⟩ := grd_e hf
      refine v_getR C 8 0 hb27 rfl nin_8 (ns_kd_lt hk_a0 (by decide)) hk_a0 (by decide) (by decide) rfl 12 tw_287 rfl 40 rfl (by decide +kernel) ?_
      obtain ⟨b28, hb28, hf⟩ := drf_e hf
      obtain ⟨hk_b28, hf⟩ := grd_e hf
      refine v_getRN C 7 0 hb28 rfl nin_7 (ns_kd_lt hk_b27 (by decide)) hk_b27 (by decide) (by decide) rfl 138 tw_128 rfl 43 rfl (by decide +kernel) ?_
      refine v_iload_n C 2 3 rfl 44 rfl (by decide +kernel) ?_
      obtain ⟨r30, σ29, hcr30, hf⟩ := cl2_e hf
      refine v_cVN C 0 rfl (ns_kd_lt hk_b26 (by decide)) hk_b26 (by decide) [.ref (G.1 + b20), .ref (G.1 + b28), .int x2] [] (c_Chance_unfallen G l σ23 b26 b20 b28 x2 hcr30) 307 3 tw_881 tw_878 tw_880 ts_65 tw_8 hd_Chance_unfallen rfl ⟨(Nat.le_of_ble_eq_true rfl), (Nat.le_of_ble_eq_true rfl)⟩ ⟨(Nat.le_of_ble_eq_true rfl), (Nat.le_of_ble_eq_true rfl)⟩ (Nat.le_of_ble_eq_true rfl) rfl 47 rfl (by decide +kernel) [.int r30] rfl ?_
      obtain ⟨rfl, rfl⟩ := ret_e hf
      exact v_iret C hr (by decide +kernel)
    · have hf := ite2_t hf h25
      refine v_aload_n C 0 1 rfl 25 rfl (by decide +kernel) ?_
      refine v_bipush C (-2) (-2) (by decide) 27 rfl (by decide +kernel) ?_
      obtain ⟨r32, σ31, hcr32, hf⟩ := cl2_e hf
      refine v_cV C 8 rfl (ns_kd_lt hk_a0 (by decide)) hk_a0 (by decide) [.int (-2 : Int32)] [] (c_N_refuse G l σ23 a0 (-2 : Int32) hcr32) 79 1 tw_338 tw_335 tw_337 ts_1 tw_1 hd_N_refuse rfl ⟨(Nat.le_of_ble_eq_true rfl), (Nat.le_of_ble_eq_true rfl)⟩ ⟨(Nat.le_of_ble_eq_true rfl), (Nat.le_of_ble_eq_true rfl)⟩ (Nat.le_of_ble_eq_true rfl) rfl 30 rfl (by decide +kernel) [.int r32] rfl ?_
      obtain ⟨rfl, rfl⟩ := ret_e hf
      exact v_iret C hr (by decide +kernel)
theorem hd_N_sure : (⟨"NinthStep", "sure", "(II)I"⟩ : MethodName).cls = "NinthStep" ∧ (⟨"NinthStep", "sure", "(II)I"⟩ : MethodName).cls ≠ "java/lang/invoke/MethodHandle" ∧ (⟨"NinthStep", "sure", "(II)I"⟩ : MethodName).cls ≠ "java/lang/invoke/VarHandle" ∧ (parseMethodDescriptor (⟨"NinthStep", "sure", "(II)I"⟩ : MethodName).desc).map (fun d => d.parameters.length) = some 2 := by decide +kernel
def g_N_firstWrong_6  : Nat → ns_St → Nat → Int32 → Int64 → Int32 → Option (Int32 × ns_St)
  | 0, _, _, _, _, _ => none
  | f + 1, σ, a0, x1, x4, x6 => ite2 (x1 ≤ x6) (ite2 ((lg_cmp x4 (0 : Int64)) = 0) (some ((-1 : Int32), σ)) (some (x1, σ))) (ite2 ((lg_cmp x4 (0 : Int64)) = 0) (some (x6, σ)) (cl2 (g_Shelf_cellAt σ a0 x6) fun r15 σ14 => cl2 (g_N_firstOf σ14 x4) fun r17 σ16 => ite2 ((lg_cmp r15 (r17.toInt64)) = 0) (bnd (x4 &&& (x4 - (1 : Int64))) fun z19 => bnd (x6 + 1) fun z20 => (g_N_firstWrong_6 f) σ16 a0 x1 z19 z20) (some (x6, σ16))))
def g_N_firstWrong (σ : ns_St) (a0 : Nat) (x1 : Int32) (x2 : Int64) : Option (Int32 × ns_St) := grd (ns_kd a0 = 3) <| g_N_firstWrong_6 ns_F σ a0 x1 x2 (0 : Int32)
theorem t_N_firstWrong_6 (G : ns_G) (l : Launch) {p : Program} {e : Env} {s : State} {m : MethodId} {args : Array Value} {below : List Frame} {meth : Method} {c : Code} (C : ns_Cx G p s m args meth c prog_1_method_66_code "NinthStep" 7) (hr : meth.sig.returnType = (some .int)) {r : Int32} {σ' : ns_St}  : ∀ (f : Nat) (σ : ns_St) (a0 : Nat) (x1 : Int32) (x4 : Int64) (x6 : Int32) (hk_a0 : ns_kd a0 = 3), g_N_firstWrong_6 f σ a0 x1 x4 x6 = some (r, σ') → VV G p l e { frames := 3, cells := 0, slots := 0, locals := 64 } s m args below meth c 7 0 0 (MQ below (ns_Qc G (some (.int r)) ns_N σ') args s 0 0 (ns_A G)) ns_N σ 6 [(0, .ref (G.1 + a0)), (1, .int x1), (4, .long x4), (6, .int x6)] [] := by
  intro f
  induction f with
  | zero =>
    intro σ a0 x1 x4 x6 hk_a0 hf
    cases hf
  | succ f ih =>
    intro σ a0 x1 x4 x6 hk_a0 hf
    rw [g_N_firstWrong_6] at hf
    refine v_iload C 6 3 rfl 8 rfl (by decide +kernel) ?_
    refine v_iload_n C 1 1 rfl 9 rfl (by decide +kernel) ?_
    refine v_icmp_ge C 53 12 rfl (by decide +kernel) (fun h11 => ?_) (fun h11 => ?_)
    · have hf := ite2_t hf h11
      refine v_lload C 4 2 rfl 55 rfl (by decide +kernel) ?_
      refine v_lconst C 0 (0) (by decide) 56 rfl (by decide +kernel) ?_
      refine v_lcmp C 57 rfl (by decide +kernel) ?_
      refine v_if_ne C 64 60 rfl (by decide +kernel) (fun h12 => ?_) (fun h12 => ?_)
      · have hf := ite2_f hf h12
        refine v_iload_n C 1 1 rfl 65 rfl (by decide +kernel) ?_
        obtain ⟨rfl, rfl⟩ := ret_e hf
        exact v_iret C hr (by decide +kernel)
      · have hf := ite2_t hf h12
        refine v_iconst C (-1) (-1) (by decide) 61 rfl (by decide +kernel) ?_
        refine v_goto C 65 (by decide +kernel) ?_
        obtain ⟨rfl, rfl⟩ := ret_e hf
        exact v_iret C hr (by decide +kernel)
    · have hf := ite2_f hf h11
      refine v_lload C 4 2 rfl 14 rfl (by decide +kernel) ?_
      refine v_lconst C 0 (0) (by decide) 15 rfl (by decide +kernel) ?_
      refine v_lcmp C 16 rfl (by decide +kernel) ?_
      refine v_if_eq C 35 19 rfl (by decide +kernel) (fun h13 => ?_) (fun h13 => ?_)
      · have hf := ite2_t hf h13
        refine v_iload C 6 3 rfl 37 rfl (by decide +kernel) ?_
        obtain ⟨rfl, rfl⟩ := ret_e hf
        exact v_iret C hr (by decide +kernel)
      · have hf := ite2_f hf h13
        refine v_aload_n C 0 0 rfl 20 rfl (by decide +kernel) ?_
        refine v_iload C 6 3 rfl 22 rfl (by decide +kernel) ?_
        obtain ⟨r15, σ14, hcr15, hf⟩ := cl2_e hf
        refine v_cVN C 3 rfl (ns_kd_lt hk_a0 (by decide)) hk_a0 (by decide) [.int x6] [] (c_Shelf_cellAt G l σ a0 x6 hcr15) 113 1 tw_377 tw_374 tw_376 ts_6 tw_9 hd_Shelf_cellAt rfl ⟨(Nat.le_of_ble_eq_true rfl), (Nat.le_of_ble_eq_true rfl)⟩ ⟨(Nat.le_of_ble_eq_true rfl), (Nat.le_of_ble_eq_true rfl)⟩ (Nat.le_of_ble_eq_true rfl) rfl 25 rfl (by decide +kernel) [.long r15] rfl ?_
        refine v_lload C 4 2 rfl 27 rfl (by decide +kernel) ?_
        obtain ⟨r17, σ16, hcr17, hf⟩ := cl2_e hf
        refine v_cS C [.long x4] [.long r15] (c_N_firstOf G l σ14 x4 hcr17) 238 1 tw_416 tw_414 tw_415 tw_1 hd_N_firstOf rfl ⟨(Nat.le_of_ble_eq_true rfl), (Nat.le_of_ble_eq_true rfl)⟩ ⟨(Nat.le_of_ble_eq_true rfl), (Nat.le_of_ble_eq_true rfl)⟩ (Nat.le_of_ble_eq_true rfl) rfl 30 rfl (by decide +kernel) [.int r17, .long r15] rfl ?_
        refine v_i2l C 31 rfl (by decide +kernel) ?_
        refine v_lcmp C 32 rfl (by decide +kernel) ?_
        refine v_if_eq C 38 35 rfl (by decide +kernel) (fun h18 => ?_) (fun h18 => ?_)
        · have hf := ite2_t hf h18
          refine v_lload C 4 2 rfl 40 rfl (by decide +kernel) ?_
          refine v_lload C 4 2 rfl 42 rfl (by decide +kernel) ?_
          refine v_lconst C 1 (1) (by decide) 43 rfl (by decide +kernel) ?_
          refine v_lsub C 44 rfl (by decide +kernel) ?_
          refine v_land C 45 rfl (by decide +kernel) ?_
          obtain ⟨z19, hz19, hf⟩ := bnd_e hf
          refine v_nmJ hz19 ?_
          refine v_lstore C 4 [(4, .long z19), (0, .ref (G.1 + a0)), (1, .int x1), (6, .int x6)] (by decide) rfl 47 rfl (by decide +kernel) ?_
          obtain ⟨z20, hz20, hf⟩ := bnd_e hf
          refine v_iinc C 6 (1) 3 z20 rfl (by rw [hz20]; rfl) [(6, .int z20), (4, .long z19), (0, .ref (G.1 + a0)), (1, .int x1)] (by decide) rfl 50 rfl (by decide +kernel) ?_
          refine v_goto C 6 (by decide +kernel) ?_
          refine v_sub [2, 3, 1, 0] rfl ?_
          exact ih σ16 a0 x1 z19 z20 hk_a0 hf
        · have hf := ite2_f hf h18
          refine v_iload C 6 3 rfl 37 rfl (by decide +kernel) ?_
          obtain ⟨rfl, rfl⟩ := ret_e hf
          exact v_iret C hr (by decide +kernel)
theorem c_N_firstWrong (G : ns_G) (l : Launch) (σ : ns_St) (a0 : Nat) (x1 : Int32) (x2 : Int64) {r : Int32} {σ' : ns_St} (hf : g_N_firstWrong σ a0 x1 x2 = some (r, σ')) : ns_ok G l ⟨"NinthStep", "firstWrong", "(LNinthStep$Shelf;IJ)I"⟩ prog_1_method_66_code 7 (some .int) 3 64 0 0 [.ref (G.1 + a0), .int x1, .long x2] ns_N σ (some (.int r)) ns_N σ' := by
  refine v_open (by decide) (Nat.le_of_ble_eq_true rfl) rfl ?_
  intro p e s m below meth c C hr _
  have C : ns_Cx G p s m _ meth c prog_1_method_66_code "NinthStep" 7 := C
  unfold g_N_firstWrong at hf
  obtain ⟨hk_a0, hf⟩ := grd_e hf
  refine v_lload_n C 2 2 rfl 1 rfl (by decide +kernel) ?_
  refine v_lstore C 4 [(4, .long x2), (0, .ref (G.1 + a0)), (1, .int x1), (2, .long x2)] (by decide) rfl 3 rfl (by decide +kernel) ?_
  refine v_iconst C (0) (0) (by decide) 4 rfl (by decide +kernel) ?_
  refine v_istore C 6 [(6, .int (0 : Int32)), (4, .long x2), (0, .ref (G.1 + a0)), (1, .int x1), (2, .long x2)] (by decide) rfl 6 rfl (by decide +kernel) ?_
  refine v_sub [2, 3, 1, 0] rfl ?_
  exact t_N_firstWrong_6 G l C hr  ns_F σ a0 x1 x2 (0 : Int32) hk_a0 hf
theorem hd_N_firstWrong : (⟨"NinthStep", "firstWrong", "(LNinthStep$Shelf;IJ)I"⟩ : MethodName).cls ≠ "java/lang/invoke/MethodHandle" ∧ (⟨"NinthStep", "firstWrong", "(LNinthStep$Shelf;IJ)I"⟩ : MethodName).cls ≠ "java/lang/invoke/VarHandle" ∧ (parseMethodDescriptor (⟨"NinthStep", "firstWrong", "(LNinthStep$Shelf;IJ)I"⟩ : MethodName).desc).map (fun d => d.parameters.length) = some 3 := by decide +kernel
def g_N_judge (σ : ns_St) (a0 : Nat) (x1 : Int32) (x2 : Int32) (x3 : Int32) : Option (Int32 × ns_St) := grd (ns_kd a0 = 8) <| cl2 (g_N_shelfAt σ a0 x1) fun r36 σ35 => onul r36 (drf (σ35.2.2 a0 0) fun b38 => grd (ns_kd b38 = 7) <| cl2 (g_World_muleAt σ35 b38 x3) fun r40 σ39 => onul r40 (cl2 (g_N_refuse σ39 a0 (-2 : Int32)) fun r43 σ42 => some (r43, σ42)) (fun b41 => grd (ns_kd b41 = 2) <| cl2 (g_N_refuse σ39 a0 (-2 : Int32)) fun r45 σ44 => some (r45, σ44))) (fun b37 => grd (ns_kd b37 = 3) <| drf (σ35.2.2 a0 0) fun b46 => grd (ns_kd b46 = 7) <| cl2 (g_World_muleAt σ35 b46 x3) fun r48 σ47 => onul r48 (cl2 (g_N_refuse σ47 a0 (-2 : Int32)) fun r51 σ50 => some (r51, σ50)) (fun b49 => grd (ns_kd b49 = 2) <| cl2 (g_N_isWithin σ47 x2 (0 : Int32) (40 : Int32)) fun r53 σ52 => ite2 (r53 = 0) (cl2 (g_N_refuse σ52 a0 (-2 : Int32)) fun r68 σ67 => some (r68, σ67)) (cl2 (g_Shelf_troubleAsRow σ52 b37) fun r56 σ55 => ite2 (r56 = 0) (ite2 (x2 ≤ (σ55.1 b37 1)) (cl2 (g_N_stopsOf σ55 a0 b49) fun r60 σ59 => cl2 (g_N_firstWrong σ59 b37 x2 r60) fun r62 σ61 => some (r62, σ61)) (cl2 (g_N_refuse σ55 a0 (-2 : Int32)) fun r64 σ63 => some (r64, σ63))) (cl2 (g_N_refuse σ55 a0 r56) fun r66 σ65 => some (r66, σ65)))))
theorem c_N_judge (G : ns_G) (l : Launch) (σ : ns_St) (a0 : Nat) (x1 : Int32) (x2 : Int32) (x3 : Int32) {r : Int32} {σ' : ns_St} (hf : g_N_judge σ a0 x1 x2 x3 = some (r, σ')) : ns_ok G l ⟨"NinthStep", "judge", "(III)I"⟩ prog_1_method_36_code 7 (some .int) 4 93 0 0 [.ref (G.1 + a0), .int x1, .int x2, .int x3] ns_N σ (some (.int r)) ns_N σ' := by
  refine v_open (by decide) (Nat.le_of_ble_eq_true rfl) rfl ?_
  intro p e s m below meth c C hr _
  have C : ns_Cx G p s m _ meth c prog_1_method_36_code "NinthStep" 7 := C
  unfold g_N_judge at hf
  obtain ⟨hk_a0, hf⟩ := grd_e hf
  refine v_aload_n C 0 0 rfl 1 rfl (by decide +kernel) ?_
  refine v_iload_n C 1 1 rfl 2 rfl (by decide +kernel) ?_
  obtain ⟨r36, σ35, hcr36, hf⟩ := cl2_e hf
  rcases r36 with _ | b37
  · have hf := onul_n hf
    refine v_cV C 8 rfl (ns_kd_lt hk_a0 (by decide)) hk_a0 (by decide) [.int x1] [] (c_N_shelfAt G l σ a0 x1 hcr36) 71 1 tw_331 tw_328 tw_330 ts_0 tw_1 hd_N_shelfAt rfl ⟨(Nat.le_of_ble_eq_true rfl), (Nat.le_of_ble_eq_true rfl)⟩ ⟨(Nat.le_of_ble_eq_true rfl), (Nat.le_of_ble_eq_true rfl)⟩ (Nat.le_of_ble_eq_true rfl) rfl 5 rfl (by decide +kernel) [.null] rfl ?_
    refine v_astoreN C 4 [(4, .null), (0, .ref (G.1 + a0)), (1, .int x1), (2, .int x2), (3, .int x3)] (by decide) rfl 7 rfl (by decide +kernel) ?_
    refine v_aload_n C 0 1 rfl 8 rfl (by decide +kernel) ?_
    obtain ⟨b38, hb38, hf⟩ := drf_e hf
    obtain ⟨hk_b38, hf⟩ := grd_e hf
    refine v_getR C 8 0 hb38 rfl nin_8 (ns_kd_lt hk_a0 (by decide)) hk_a0 (by decide) (by decide) rfl 12 tw_287 rfl 11 rfl (by decide +kernel) ?_
    refine v_iload_n C 3 4 rfl 12 rfl (by decide +kernel) ?_
    obtain ⟨r40, σ39, hcr40, hf⟩ := cl2_e hf
    rcases r40 with _ | b41
    · have hf := onul_n hf
      refine v_cVN C 7 rfl (ns_kd_lt hk_b38 (by decide)) hk_b38 (by decide) [.int x3] [] (c_World_muleAt G l σ35 b38 x3 hcr40) 120 1 tw_390 tw_387 tw_389 ts_7 tw_2 hd_World_muleAt rfl ⟨(Nat.le_of_ble_eq_true rfl), (Nat.le_of_ble_eq_true rfl)⟩ ⟨(Nat.le_of_ble_eq_true rfl), (Nat.le_of_ble_eq_true rfl)⟩ (Nat.le_of_ble_eq_true rfl) rfl 15 rfl (by decide +kernel) [.null] rfl ?_
      refine v_astoreN C 5 [(5, .null), (4, .null), (0, .ref (G.1 + a0)), (1, .int x1), (2, .int x2), (3, .int x3)] (by decide) rfl 17 rfl (by decide +kernel) ?_
      refine v_aloadN C 4 1 rfl 19 rfl (by decide +kernel) ?_
      refine v_ifnullN C 37 (by decide +kernel) ?_
      refine v_aload_n C 0 2 rfl 38 rfl (by decide +kernel) ?_
      refine v_bipush C (-2) (-2) (by decide) 40 rfl (by decide +kernel) ?_
      obtain ⟨r43, σ42, hcr43, hf⟩ := cl2_e hf
      refine v_cV C 8 rfl (ns_kd_lt hk_a0 (by decide)) hk_a0 (by decide) [.int (-2 : Int32)] [] (c_N_refuse G l σ39 a0 (-2 : Int32) hcr43) 79 1 tw_338 tw_335 tw_337 ts_1 tw_1 hd_N_refuse rfl ⟨(Nat.le_of_ble_eq_true rfl), (Nat.le_of_ble_eq_true rfl)⟩ ⟨(Nat.le_of_ble_eq_true rfl), (Nat.le_of_ble_eq_true rfl)⟩ (Nat.le_of_ble_eq_true rfl) rfl 43 rfl (by decide +kernel) [.int r43] rfl ?_
      obtain ⟨rfl, rfl⟩ := ret_e hf
      exact v_iret C hr (by decide +kernel)
    · have hf := onul_s hf
      obtain ⟨hk_b41, hf⟩ := grd_e hf
      refine v_cVN C 7 rfl (ns_kd_lt hk_b38 (by decide)) hk_b38 (by decide) [.int x3] [] (c_World_muleAt G l σ35 b38 x3 hcr40) 120 1 tw_390 tw_387 tw_389 ts_7 tw_2 hd_World_muleAt rfl ⟨(Nat.le_of_ble_eq_true rfl), (Nat.le_of_ble_eq_true rfl)⟩ ⟨(Nat.le_of_ble_eq_true rfl), (Nat.le_of_ble_eq_true rfl)⟩ (Nat.le_of_ble_eq_true rfl) rfl 15 rfl (by decide +kernel) [.ref (G.1 + b41)] rfl ?_
      refine v_astore C 5 [(5, .ref (G.1 + b41)), (4, .null), (0, .ref (G.1 + a0)), (1, .int x1), (2, .int x2), (3, .int x3)] (by decide) rfl 17 rfl (by decide +kernel) ?_
      refine v_aloadN C 4 1 rfl 19 rfl (by decide +kernel) ?_
      refine v_ifnullN C 37 (by decide +kernel) ?_
      refine v_aload_n C 0 2 rfl 38 rfl (by decide +kernel) ?_
      refine v_bipush C (-2) (-2) (by decide) 40 rfl (by decide +kernel) ?_
      obtain ⟨r45, σ44, hcr45, hf⟩ := cl2_e hf
      refine v_cV C 8 rfl (ns_kd_lt hk_a0 (by decide)) hk_a0 (by decide) [.int (-2 : Int32)] [] (c_N_refuse G l σ39 a0 (-2 : Int32) hcr45) 79 1 tw_338 tw_335 tw_337 ts_1 tw_1 hd_N_refuse rfl ⟨(Nat.le_of_ble_eq_true rfl), (Nat.le_of_ble_eq_true rfl)⟩ ⟨(Nat.le_of_ble_eq_true rfl), (Nat.le_of_ble_eq_true rfl)⟩ (Nat.le_of_ble_eq_true rfl) rfl 43 rfl (by decide +kernel) [.int r45] rfl ?_
      obtain ⟨rfl, rfl⟩ := ret_e hf
      exact v_iret C hr (by decide +kernel)
  · have hf := onul_s hf
    obtain ⟨hk_b37, hf⟩ := grd_e hf
    refine v_cV C 8 rfl (ns_kd_lt hk_a0 (by decide)) hk_a0 (by decide) [.int x1] [] (c_N_shelfAt G l σ a0 x1 hcr36) 71 1 tw_331 tw_328 tw_330 ts_0 tw_1 hd_N_shelfAt rfl ⟨(Nat.le_of_ble_eq_true rfl), (Nat.le_of_ble_eq_true rfl)⟩ ⟨(Nat.le_of_ble_eq_true rfl), (Nat.le_of_ble_eq_true rfl)⟩ (Nat.le_of_ble_eq_true rfl) rfl 5 rfl (by decide +kernel) [.ref (G.1 + b37)] rfl ?_
    refine v_astore C 4 [(4, .ref (G.1 + b37)), (0, .ref (G.1 + a0)), (1, .int x1), (2, .int x2), (3, .int x3)] (by decide) rfl 7 rfl (by decide +kernel) ?_
    refine v_aload_n C 0 1 rfl 8 rfl (by decide +kernel) ?_
    obtain ⟨b46, hb46, hf⟩ := drf_e hf
    obtain ⟨hk_b46, hf⟩ := grd_e hf
    refine v_getR C 8 0 hb46 rfl nin_8 (ns_kd_lt hk_a0 (by decide)) hk_a0 (by decide) (by decide) rfl 12 tw_287 rfl 11 rfl (by decide +kernel) ?_
    refine v_iload_n C 3 4 rfl 12 rfl (by decide +kernel) ?_
    obtain ⟨r48, σ47, hcr48, hf⟩ := cl2_e hf
    rcases r48 with _ | b49
    · have hf := onul_n hf
      refine v_cVN C 7 rfl (ns_kd_lt hk_b46 (by decide)) hk_b46 (by decide) [.int x3] [] (c_World_muleAt G l σ35 b46 x3 hcr48) 120 1 tw_390 tw_387 tw_389 ts_7 tw_2 hd_World_muleAt rfl ⟨(Nat.le_of_ble_eq_true rfl), (Nat.le_of_ble_eq_true rfl)⟩ ⟨(Nat.le_of_ble_eq_true rfl), (Nat.le_of_ble_eq_true rfl)⟩ (Nat.le_of_ble_eq_true rfl) rfl 15 rfl (by decide +kernel) [.null] rfl ?_
      refine v_astoreN C 5 [(5, .null), (4, .ref (G.1 + b37)), (0, .ref (G.1 + a0)), (1, .int x1), (2, .int x2), (3, .int x3)] (by decide) rfl 17 rfl (by decide +kernel) ?_
      refine v_aload C 4 1 rfl 19 rfl (by decide +kernel) ?_
      refine v_ifnull C 37 22 rfl (by decide +kernel) ?_
      refine v_aloadN C 5 0 rfl 24 rfl (by decide +kernel) ?_
      refine v_ifnullN C 37 (by decide +kernel) ?_
      refine v_aload_n C 0 2 rfl 38 rfl (by decide +kernel) ?_
      refine v_bipush C (-2) (-2) (by decide) 40 rfl (by decide +kernel) ?_
      obtain ⟨r51, σ50, hcr51, hf⟩ := cl2_e hf
      refine v_cV C 8 rfl (ns_kd_lt hk_a0 (by decide)) hk_a0 (by decide) [.int (-2 : Int32)] [] (c_N_refuse G l σ47 a0 (-2 : Int32) hcr51) 79 1 tw_338 tw_335 tw_337 ts_1 tw_1 hd_N_refuse rfl ⟨(Nat.le_of_ble_eq_true rfl), (Nat.le_of_ble_eq_true rfl)⟩ ⟨(Nat.le_of_ble_eq_true rfl), (Nat.le_of_ble_eq_true rfl)⟩ (Nat.le_of_ble_eq_true rfl) rfl 43 rfl (by decide +kernel) [.int r51] rfl ?_
      obtain ⟨rfl, rfl⟩ := ret_e hf
      exact v_iret C hr (by decide +kernel)
    · have hf := onul_s hf
      obtain ⟨hk_b49, hf⟩ := grd_e hf
      refine v_cVN C 7 rfl (ns_kd_lt hk_b46 (by decide)) hk_b46 (by decide) [.int x3] [] (c_World_muleAt G l σ35 b46 x3 hcr48) 120 1 tw_390 tw_387 tw_389 ts_7 tw_2 hd_World_muleAt rfl ⟨(Nat.le_of_ble_eq_true rfl), (Nat.le_of_ble_eq_true rfl)⟩ ⟨(Nat.le_of_ble_eq_true rfl), (Nat.le_of_ble_eq_true rfl)⟩ (Nat.le_of_ble_eq_true rfl) rfl 15 rfl (by decide +kernel) [.ref (G.1 + b49)] rfl ?_
      refine v_astore C 5 [(5, .ref (G.1 + b49)), (4, .ref (G.1 + b37)), (0, .ref (G.1 + a0)), (1, .int x1), (2, .int x2), (3, .int x3)] (by decide) rfl 17 rfl (by decide +kernel) ?_
      refine v_aload C 4 1 rfl 19 rfl (by decide +kernel) ?_
      refine v_ifnull C 37 22 rfl (by decide +kernel) ?_
      refine v_aload C 5 0 rfl 24 rfl (by decide +kernel) ?_
      refine v_ifnull C 37 27 rfl (by decide +kernel) ?_
      refine v_iload_n C 2 4 rfl 28 rfl (by decide +kernel) ?_
      refine v_iconst C (0) (0) (by decide) 29 rfl (by decide +kernel) ?_
      refine v_bipush C (40) (40) (by decide) 31 rfl (by decide +kernel) ?_
      obtain ⟨r53, σ52, hcr53, hf⟩ := cl2_e hf
      refine v_cS C [.int x2, .int (0 : Int32), .int (40 : Int32)] [] (c_N_isWithin G l σ47 x2 (0 : Int32) (40 : Int32) hcr53) 75 3 tw_334 tw_332 tw_333 tw_1 hd_N_isWithin rfl ⟨(Nat.le_of_ble_eq_true rfl), (Nat.le_of_ble_eq_true rfl)⟩ ⟨(Nat.le_of_ble_eq_true rfl), (Nat.le_of_ble_eq_true rfl)⟩ (Nat.le_of_ble_eq_true rfl) rfl 34 rfl (by decide +kernel) [.int r53] rfl ?_
      refine v_if_ne C 44 37 rfl (by decide +kernel) (fun h54 => ?_) (fun h54 => ?_)
      · have hf := ite2_f hf h54
        refine v_aload C 4 1 rfl 46 rfl (by decide +kernel) ?_
        obtain ⟨r56, σ55, hcr56, hf⟩ := cl2_e hf
        refine v_cVN C 3 rfl (ns_kd_lt hk_b37 (by decide)) hk_b37 (by decide) [] [] (c_Shelf_troubleAsRow G l σ52 b37 hcr56) 87 0 tw_350 tw_347 tw_349 ts_3 tw_9 hd_Shelf_troubleAsRow rfl ⟨(Nat.le_of_ble_eq_true rfl), (Nat.le_of_ble_eq_true rfl)⟩ ⟨(Nat.le_of_ble_eq_true rfl), (Nat.le_of_ble_eq_true rfl)⟩ (Nat.le_of_ble_eq_true rfl) rfl 49 rfl (by decide +kernel) [.int r56] rfl ?_
        refine v_istore C 6 [(6, .int r56), (5, .ref (G.1 + b49)), (4, .ref (G.1 + b37)), (0, .ref (G.1 + a0)), (1, .int x1), (2, .int x2), (3, .int x3)] (by decide) rfl 51 rfl (by decide +kernel) ?_
        refine v_iload C 6 0 rfl 53 rfl (by decide +kernel) ?_
        refine v_if_eq C 63 56 rfl (by decide +kernel) (fun h57 => ?_) (fun h57 => ?_)
        · have hf := ite2_t hf h57
          refine v_aload C 4 2 rfl 65 rfl (by decide +kernel) ?_
          refine v_getIN C 3 1 rfl nin_3 (ns_kd_lt hk_b37 (by decide)) hk_b37 (by decide) (by decide) rfl 91 tw_277 rfl 68 rfl (by decide +kernel) ?_
          refine v_iload_n C 2 5 rfl 69 rfl (by decide +kernel) ?_
          refine v_icmp_ge C 79 72 rfl (by decide +kernel) (fun h58 => ?_) (fun h58 => ?_)
          · have hf := ite2_t hf h58
            refine v_aload C 4 2 rfl 81 rfl (by decide +kernel) ?_
            refine v_iload_n C 2 5 rfl 82 rfl (by decide +kernel) ?_
            refine v_aload_n C 0 3 rfl 83 rfl (by decide +kernel) ?_
            refine v_aload C 5 1 rfl 85 rfl (by decide +kernel) ?_
            obtain ⟨r60, σ59, hcr60, hf⟩ := cl2_e hf
            refine v_cV C 8 rfl (ns_kd_lt hk_a0 (by decide)) hk_a0 (by decide) [.ref (G.1 + b49)] [.int x2, .ref (G.1 + b37)] (c_N_stopsOf G l σ55 a0 b49 hcr60) 209 1 tw_643 tw_640 tw_642 ts_29 tw_1 hd_N_stopsOf rfl ⟨(Nat.le_of_ble_eq_true rfl), (Nat.le_of_ble_eq_true rfl)⟩ ⟨(Nat.le_of_ble_eq_true rfl), (Nat.le_of_ble_eq_true rfl)⟩ (Nat.le_of_ble_eq_true rfl) rfl 88 rfl (by decide +kernel) [.long r60, .int x2, .ref (G.1 + b37)] rfl ?_
            obtain ⟨r62, σ61, hcr62, hf⟩ := cl2_e hf
            refine v_cS C [.ref (G.1 + b37), .int x2, .long r60] [] (c_N_firstWrong G l σ59 b37 x2 r60 hcr62) 311 3 tw_899 tw_897 tw_898 tw_1 hd_N_firstWrong rfl ⟨(Nat.le_of_ble_eq_true rfl), (Nat.le_of_ble_eq_true rfl)⟩ ⟨(Nat.le_of_ble_eq_true rfl), (Nat.le_of_ble_eq_true rfl)⟩ (Nat.le_of_ble_eq_true rfl) rfl 91 rfl (by decide +kernel) [.int r62] rfl ?_
            obtain ⟨rfl, rfl⟩ := ret_e hf
            exact v_iret C hr (by decide +kernel)
          · have hf := ite2_f hf h58
            refine v_aload_n C 0 3 rfl 73 rfl (by decide +kernel) ?_
            refine v_bipush C (-2) (-2) (by decide) 75 rfl (by decide +kernel) ?_
            obtain ⟨r64, σ63, hcr64, hf⟩ := cl2_e hf
            refine v_cV C 8 rfl (ns_kd_lt hk_a0 (by decide)) hk_a0 (by decide) [.int (-2 : Int32)] [] (c_N_refuse G l σ55 a0 (-2 : Int32) hcr64) 79 1 tw_338 tw_335 tw_337 ts_1 tw_1 hd_N_refuse rfl ⟨(Nat.le_of_ble_eq_true rfl), (Nat.le_of_ble_eq_true rfl)⟩ ⟨(Nat.le_of_ble_eq_true rfl), (Nat.le_of_ble_eq_true rfl)⟩ (Nat.le_of_ble_eq_true rfl) rfl 78 rfl (by decide +kernel) [.int r64] rfl ?_
            obtain ⟨rfl, rfl⟩ := ret_e hf
            exact v_iret C hr (by decide +kernel)
        · have hf := ite2_f hf h57
          refine v_aload_n C 0 3 rfl 57 rfl (by decide +kernel) ?_
          refine v_iload C 6 0 rfl 59 rfl (by decide +kernel) ?_
          obtain ⟨r66, σ65, hcr66, hf⟩ := cl2_e hf
          refine v_cV C 8 rfl (ns_kd_lt hk_a0 (by decide)) hk_a0 (by decide) [.int r56] [] (c_N_refuse G l σ55 a0 r56 hcr66) 79 1 tw_338 tw_335 tw_337 ts_1 tw_1 hd_N_refuse rfl ⟨(Nat.le_of_ble_eq_true rfl), (Nat.le_of_ble_eq_true rfl)⟩ ⟨(Nat.le_of_ble_eq_true rfl), (Nat.le_of_ble_eq_true rfl)⟩ (Nat.le_of_ble_eq_true rfl) rfl 62 rfl (by decide +kernel) [.int r66] rfl ?_
          obtain ⟨rfl, rfl⟩ := ret_e hf
          exact v_iret C hr (by decide +kernel)
      · have hf := ite2_t hf h54
        refine v_aload_n C 0 2 rfl 38 rfl (by decide +kernel) ?_
        refine v_bipush C (-2) (-2) (by decide) 40 rfl (by decide +kernel) ?_
        obtain ⟨r68, σ67, hcr68, hf⟩ := cl2_e hf
        refine v_cV C 8 rfl (ns_kd_lt hk_a0 (by decide)) hk_a0 (by decide) [.int (-2 : Int32)] [] (c_N_refuse G l σ52 a0 (-2 : Int32) hcr68) 79 1 tw_338 tw_335 tw_337 ts_1 tw_1 hd_N_refuse rfl ⟨(Nat.le_of_ble_eq_true rfl), (Nat.le_of_ble_eq_true rfl)⟩ ⟨(Nat.le_of_ble_eq_true rfl), (Nat.le_of_ble_eq_true rfl)⟩ (Nat.le_of_ble_eq_true rfl) rfl 43 rfl (by decide +kernel) [.int r68] rfl ?_
        obtain ⟨rfl, rfl⟩ := ret_e hf
        exact v_iret C hr (by decide +kernel)
theorem hd_N_judge : (⟨"NinthStep", "judge", "(III)I"⟩ : MethodName).cls = "NinthStep" ∧ (⟨"NinthStep", "judge", "(III)I"⟩ : MethodName).cls ≠ "java/lang/invoke/MethodHandle" ∧ (⟨"NinthStep", "judge", "(III)I"⟩ : MethodName).cls ≠ "java/lang/invoke/VarHandle" ∧ (parseMethodDescriptor (⟨"NinthStep", "judge", "(III)I"⟩ : MethodName).desc).map (fun d => d.parameters.length) = some 3 := by decide +kernel
def g_N_worst_6  : Nat → ns_St → Nat → Int32 → Int32 → Int32 → Option (Int32 × ns_St)
  | 0, _, _, _, _, _ => none
  | f + 1, σ, a0, x1, x2, x3 => drf (σ.2.2 a0 0) fun b19 => grd (ns_kd b19 = 7) <| ite2 ((σ.1 b19 2) ≤ x3) (ite2 (x1 = (-1 : Int32)) (cl2 (g_N_refuse σ a0 (-5 : Int32)) fun r23 σ22 => some (r23, σ22)) (some (x1, σ))) (drf (σ.2.2 a0 0) fun b24 => grd (ns_kd b24 = 7) <| drf (σ.2.2 b24 1) fun b25 => grd (ns_kd b25 = 12) <| grd (ns_in x3 (ns_ln b25)) <| drf (σ.2.2 b25 (ns_ix x3)) fun b27 => grd (ns_kd b27 = 2) <| cl2 (g_N_stopsOf σ a0 b27) fun r29 σ28 => drf (σ28.2.2 a0 0) fun b30 => grd (ns_kd b30 = 7) <| drf (σ28.2.2 b30 0) fun b31 => grd (ns_kd b31 = 1) <| cl2 (g_Long_bitCount σ28 (r29 &&& (σ28.2.1 b31 3))) fun r33 σ32 => ite2 (r33 ≤ x2) (bnd (x3 + 1) fun z35 => (g_N_worst_6 f) σ32 a0 x1 x2 z35) (bnd (x3 + 1) fun z36 => (g_N_worst_6 f) σ32 a0 x3 r33 z36))
def g_N_worst (σ : ns_St) (a0 : Nat) : Option (Int32 × ns_St) := grd (ns_kd a0 = 8) <| g_N_worst_6 ns_F σ a0 (-1 : Int32) (-1 : Int32) (0 : Int32)
theorem t_N_worst_6 (G : ns_G) (l : Launch) {p : Program} {e : Env} {s : State} {m : MethodId} {args : Array Value} {below : List Frame} {meth : Method} {c : Code} (C : ns_Cx G p s m args meth c prog_1_method_37_code "NinthStep" 5) (hr : meth.sig.returnType = (some .int)) {r : Int32} {σ' : ns_St}  : ∀ (f : Nat) (σ : ns_St) (a0 : Nat) (x1 : Int32) (x2 : Int32) (x3 : Int32) (hk_a0 : ns_kd a0 = 8), g_N_worst_6 f σ a0 x1 x2 x3 = some (r, σ') → VV G p l e { frames := 4, cells := 0, slots := 0, locals := 93 } s m args below meth c 5 0 0 (MQ below (ns_Qc G (some (.int r)) ns_N σ') args s 0 0 (ns_A G)) ns_N σ 6 [(0, .ref (G.1 + a0)), (1, .int x1), (2, .int x2), (3, .int x3)] [] := by
  intro f
  induction f with
  | zero =>
    intro σ a0 x1 x2 x3 hk_a0 hf
    cases hf
  | succ f ih =>
    intro σ a0 x1 x2 x3 hk_a0 hf
    rw [g_N_worst_6] at hf
    refine v_iload_n C 3 3 rfl 7 rfl (by decide +kernel) ?_
    refine v_aload_n C 0 0 rfl 8 rfl (by decide +kernel) ?_
    obtain ⟨b19, hb19, hf⟩ := drf_e hf
    obtain ⟨hk_b19, hf⟩ := grd_e hf
    refine v_getR C 8 0 hb19 rfl nin_8 (ns_kd_lt hk_a0 (by decide)) hk_a0 (by decide) (by decide) rfl 12 tw_287 rfl 11 rfl (by decide +kernel) ?_
    refine v_getIN C 7 2 rfl nin_7 (ns_kd_lt hk_b19 (by decide)) hk_b19 (by decide) (by decide) rfl 135 tw_135 rfl 14 rfl (by decide +kernel) ?_
    refine v_icmp_ge C 63 17 rfl (by decide +kernel) (fun h20 => ?_) (fun h20 => ?_)
    · have hf := ite2_t hf h20
      refine v_iload_n C 1 1 rfl 64 rfl (by decide +kernel) ?_
      refine v_iconst C (-1) (-1) (by decide) 65 rfl (by decide +kernel) ?_
      refine v_icmp_ne C 77 68 rfl (by decide +kernel) (fun h21 => ?_) (fun h21 => ?_)
      · have hf := ite2_f hf h21
        refine v_iload_n C 1 1 rfl 78 rfl (by decide +kernel) ?_
        obtain ⟨rfl, rfl⟩ := ret_e hf
        exact v_iret C hr (by decide +kernel)
      · have hf := ite2_t hf h21
        refine v_aload_n C 0 0 rfl 69 rfl (by decide +kernel) ?_
        refine v_bipush C (-5) (-5) (by decide) 71 rfl (by decide +kernel) ?_
        obtain ⟨r23, σ22, hcr23, hf⟩ := cl2_e hf
        refine v_cV C 8 rfl (ns_kd_lt hk_a0 (by decide)) hk_a0 (by decide) [.int (-5 : Int32)] [] (c_N_refuse G l σ a0 (-5 : Int32) hcr23) 79 1 tw_338 tw_335 tw_337 ts_1 tw_1 hd_N_refuse rfl ⟨(Nat.le_of_ble_eq_true rfl), (Nat.le_of_ble_eq_true rfl)⟩ ⟨(Nat.le_of_ble_eq_true rfl), (Nat.le_of_ble_eq_true rfl)⟩ (Nat.le_of_ble_eq_true rfl) rfl 74 rfl (by decide +kernel) [.int r23] rfl ?_
        refine v_goto C 78 (by decide +kernel) ?_
        obtain ⟨rfl, rfl⟩ := ret_e hf
        exact v_iret C hr (by decide +kernel)
    · have hf := ite2_f hf h20
      refine v_aload_n C 0 0 rfl 18 rfl (by decide +kernel) ?_
      refine v_aload_n C 0 0 rfl 19 rfl (by decide +kernel) ?_
      obtain ⟨b24, hb24, hf⟩ := drf_e hf
      obtain ⟨hk_b24, hf⟩ := grd_e hf
      refine v_getR C 8 0 hb24 rfl nin_8 (ns_kd_lt hk_a0 (by decide)) hk_a0 (by decide) (by decide) rfl 12 tw_287 rfl 22 rfl (by decide +kernel) ?_
      obtain ⟨b25, hb25, hf⟩ := drf_e hf
      obtain ⟨hk_b25, hf⟩ := grd_e hf
      refine v_getRN C 7 1 hb25 rfl nin_7 (ns_kd_lt hk_b24 (by decide)) hk_b24 (by decide) (by decide) rfl 266 tw_131 rfl 25 rfl (by decide +kernel) ?_
      refine v_iload_n C 3 3 rfl 26 rfl (by decide +kernel) ?_
      obtain ⟨hi26, hf⟩ := grd_e hf
      obtain ⟨b27, hb27, hf⟩ := drf_e hf
      obtain ⟨hk_b27, hf⟩ := grd_e hf
      refine v_aald C 12 (by decide) (ns_kd_lt hk_b25 (by decide)) hk_b25 hi26 hb27 27 rfl (by decide +kernel) ?_
      obtain ⟨r29, σ28, hcr29, hf⟩ := cl2_e hf
      refine v_cV C 8 rfl (ns_kd_lt hk_a0 (by decide)) hk_a0 (by decide) [.ref (G.1 + b27)] [] (c_N_stopsOf G l σ a0 b27 hcr29) 209 1 tw_643 tw_640 tw_642 ts_29 tw_1 hd_N_stopsOf rfl ⟨(Nat.le_of_ble_eq_true rfl), (Nat.le_of_ble_eq_true rfl)⟩ ⟨(Nat.le_of_ble_eq_true rfl), (Nat.le_of_ble_eq_true rfl)⟩ (Nat.le_of_ble_eq_true rfl) rfl 30 rfl (by decide +kernel) [.long r29] rfl ?_
      refine v_aload_n C 0 0 rfl 31 rfl (by decide +kernel) ?_
      obtain ⟨b30, hb30, hf⟩ := drf_e hf
      obtain ⟨hk_b30, hf⟩ := grd_e hf
      refine v_getR C 8 0 hb30 rfl nin_8 (ns_kd_lt hk_a0 (by decide)) hk_a0 (by decide) (by decide) rfl 12 tw_287 rfl 34 rfl (by decide +kernel) ?_
      obtain ⟨b31, hb31, hf⟩ := drf_e hf
      obtain ⟨hk_b31, hf⟩ := grd_e hf
      refine v_getRN C 7 0 hb31 rfl nin_7 (ns_kd_lt hk_b30 (by decide)) hk_b30 (by decide) (by decide) rfl 138 tw_128 rfl 37 rfl (by decide +kernel) ?_
      refine v_getJN C 1 3 rfl nin_1 (ns_kd_lt hk_b31 (by decide)) hk_b31 (by decide) (by decide) rfl 234 tw_60 rfl 40 rfl (by decide +kernel) ?_
      refine v_land C 41 rfl (by decide +kernel) ?_
      obtain ⟨r33, σ32, hcr33, hf⟩ := cl2_e hf
      refine v_cS C [.long (r29 &&& (σ28.2.1 b31 3))] [] (c_Long_bitCount G l σ28 (r29 &&& (σ28.2.1 b31 3)) hcr33) 213 1 tw_410 tw_408 tw_409 tw_12 hd_Long_bitCount rfl ⟨(Nat.le_of_ble_eq_true rfl), (Nat.le_of_ble_eq_true rfl)⟩ ⟨(Nat.le_of_ble_eq_true rfl), (Nat.le_of_ble_eq_true rfl)⟩ (Nat.le_of_ble_eq_true rfl) rfl 44 rfl (by decide +kernel) [.int r33] rfl ?_
      refine v_istore C 4 [(4, .int r33), (0, .ref (G.1 + a0)), (1, .int x1), (2, .int x2), (3, .int x3)] (by decide) rfl 46 rfl (by decide +kernel) ?_
      refine v_iload C 4 0 rfl 48 rfl (by decide +kernel) ?_
      refine v_iload_n C 2 3 rfl 49 rfl (by decide +kernel) ?_
      refine v_icmp_le C 57 52 rfl (by decide +kernel) (fun h34 => ?_) (fun h34 => ?_)
      · have hf := ite2_t hf h34
        obtain ⟨z35, hz35, hf⟩ := bnd_e hf
        refine v_iinc C 3 (1) 4 z35 rfl (by rw [hz35]; rfl) [(3, .int z35), (4, .int r33), (0, .ref (G.1 + a0)), (1, .int x1), (2, .int x2)] (by decide) rfl 60 rfl (by decide +kernel) ?_
        refine v_goto C 6 (by decide +kernel) ?_
        refine v_sub [2, 3, 4, 0] rfl ?_
        exact ih σ32 a0 x1 x2 z35 hk_a0 hf
      · have hf := ite2_f hf h34
        refine v_iload C 4 0 rfl 54 rfl (by decide +kernel) ?_
        refine v_istore_n C 2 [(2, .int r33), (4, .int r33), (0, .ref (G.1 + a0)), (1, .int x1), (3, .int x3)] (by decide) rfl 55 rfl (by decide +kernel) ?_
        refine v_iload_n C 3 4 rfl 56 rfl (by decide +kernel) ?_
        refine v_istore_n C 1 [(1, .int x3), (2, .int r33), (4, .int r33), (0, .ref (G.1 + a0)), (3, .int x3)] (by decide) rfl 57 rfl (by decide +kernel) ?_
        obtain ⟨z36, hz36, hf⟩ := bnd_e hf
        refine v_iinc C 3 (1) 4 z36 rfl (by rw [hz36]; rfl) [(3, .int z36), (1, .int x3), (2, .int r33), (4, .int r33), (0, .ref (G.1 + a0))] (by decide) rfl 60 rfl (by decide +kernel) ?_
        refine v_goto C 6 (by decide +kernel) ?_
        refine v_sub [4, 1, 2, 0] rfl ?_
        exact ih σ32 a0 x3 r33 z36 hk_a0 hf
theorem c_N_worst (G : ns_G) (l : Launch) (σ : ns_St) (a0 : Nat) {r : Int32} {σ' : ns_St} (hf : g_N_worst σ a0 = some (r, σ')) : ns_ok G l ⟨"NinthStep", "worst", "()I"⟩ prog_1_method_37_code 5 (some .int) 4 93 0 0 [.ref (G.1 + a0)] ns_N σ (some (.int r)) ns_N σ' := by
  refine v_open (by decide) (Nat.le_of_ble_eq_true rfl) rfl ?_
  intro p e s m below meth c C hr _
  have C : ns_Cx G p s m _ meth c prog_1_method_37_code "NinthStep" 5 := C
  unfold g_N_worst at hf
  obtain ⟨hk_a0, hf⟩ := grd_e hf
  refine v_iconst C (-1) (-1) (by decide) 1 rfl (by decide +kernel) ?_
  refine v_istore_n C 1 [(1, .int (-1 : Int32)), (0, .ref (G.1 + a0))] (by decide) rfl 2 rfl (by decide +kernel) ?_
  refine v_iconst C (-1) (-1) (by decide) 3 rfl (by decide +kernel) ?_
  refine v_istore_n C 2 [(2, .int (-1 : Int32)), (1, .int (-1 : Int32)), (0, .ref (G.1 + a0))] (by decide) rfl 4 rfl (by decide +kernel) ?_
  refine v_iconst C (0) (0) (by decide) 5 rfl (by decide +kernel) ?_
  refine v_istore_n C 3 [(3, .int (0 : Int32)), (2, .int (-1 : Int32)), (1, .int (-1 : Int32)), (0, .ref (G.1 + a0))] (by decide) rfl 6 rfl (by decide +kernel) ?_
  refine v_sub [3, 2, 1, 0] rfl ?_
  exact t_N_worst_6 G l C hr  ns_F σ a0 (-1 : Int32) (-1 : Int32) (0 : Int32) hk_a0 hf
theorem hd_N_worst : (⟨"NinthStep", "worst", "()I"⟩ : MethodName).cls = "NinthStep" ∧ (⟨"NinthStep", "worst", "()I"⟩ : MethodName).cls ≠ "java/lang/invoke/MethodHandle" ∧ (⟨"NinthStep", "worst", "()I"⟩ : MethodName).cls ≠ "java/lang/invoke/VarHandle" ∧ (parseMethodDescriptor (⟨"NinthStep", "worst", "()I"⟩ : MethodName).desc).map (fun d => d.parameters.length) = some 0 := by decide +kernel
