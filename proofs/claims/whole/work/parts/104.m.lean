def g_Tape_readMule_93  (σ : ns_St) (a0 : Nat) (a2 : Nat) (x4 : Int32) : Option (Unit × ns_St) := ite2 ((σ.1 a0 2) = (-1 : Int32)) (cl2 (g_Tape_isWord σ a0 7) fun r36 σ35 => ite2 (r36 = 0) (some ((), σ35)) (cl2 (g_Tape_nextToken σ35 a0) fun r39 σ38 => cl2 (g_Tape_takeNumber σ38 a0 (0 : Int32) (x4 - (1 : Int32))) fun r41 σ40 => bnd (ns_pI σ40 a2 3 r41) fun σ42 => some ((), σ42))) (some ((), σ))
def g_Tape_readMule (σ : ns_St) (a0 : Nat) (a1 : Nat) : Option (Unit × ns_St) := grd (ns_kd a0 = 5) <| grd (ns_kd a1 = 7) <| cl2 (g_World_newMule σ a1) fun r44 σ43 => onul r44 (bnd (ns_pI σ43 a0 2 (σ43.1 a0 4)) fun σ46 => some ((), σ46)) (fun b45 => grd (ns_kd b45 = 2) <| cl2 (g_Tape_nextToken σ43 a0) fun r48 σ47 => cl2 (g_Tape_takeNumber σ47 a0 (0 : Int32) (5 : Int32)) fun r50 σ49 => cl2 (g_Tape_takeNumber σ49 a0 (2 : Int32) (13 : Int32)) fun r52 σ51 => cl2 (g_Tape_takeNumber σ51 a0 (0 : Int32) (9 : Int32)) fun r54 σ53 => cl2 (g_Mule_become σ53 b45 r50 r52 r54) fun r56 σ55 => ite2 ((σ55.1 a0 2) = (-1 : Int32)) (cl2 (g_Tape_isWord σ55 a0 6) fun r59 σ58 => ite2 (r59 = 0) (g_Tape_readMule_93 σ58 a0 b45 r52) (cl2 (g_Tape_nextToken σ58 a0) fun r62 σ61 => drf (σ61.2.2 a1 0) fun b63 => grd (ns_kd b63 = 1) <| cl2 (g_Tape_takeNumber σ61 a0 (0 : Int32) (σ61.1 b63 0)) fun r65 σ64 => bnd (ns_pI σ64 b45 2 r65) fun σ66 => g_Tape_readMule_93 σ66 a0 b45 r52)) (g_Tape_readMule_93 σ55 a0 b45 r52))
theorem t_Tape_readMule_93 (G : ns_G) (l : Launch) {p : Program} {e : Env} {s : State} {m : MethodId} {args : Array Value} {below : List Frame} {meth : Method} {c : Code} (C : ns_Cx G p s m args meth c prog_7_method_7_code "NinthStep$Tape" 6) (hr : meth.sig.returnType = none) {r : Unit} {σ' : ns_St}  (σ : ns_St) (a0 : Nat) (a2 : Nat) (x4 : Int32) (hk_a0 : ns_kd a0 = 5) (hk_a2 : ns_kd a2 = 2) (hf : g_Tape_readMule_93 σ a0 a2 x4 = some (r, σ')) : VV G p l e { frames := 5, cells := 0, slots := 0, locals := 107 } s m args below meth c 6 0 0 (MQ below (ns_Qc G none ns_N σ') args s 0 0 (ns_A G)) ns_N σ 93 [(0, .ref (G.1 + a0)), (2, .ref (G.1 + a2)), (4, .int x4)] [] := by
  unfold g_Tape_readMule_93 at hf
  refine v_aload_n C 0 0 rfl 94 rfl (by decide +kernel) ?_
  refine v_getI C 5 2 rfl nin_5 (ns_kd_lt hk_a0 (by decide)) hk_a0 (by decide) (by decide) rfl 19 tw_166 rfl 97 rfl (by decide +kernel) ?_
  refine v_iconst C (-1) (-1) (by decide) 98 rfl (by decide +kernel) ?_
  refine v_icmp_ne C 127 101 rfl (by decide +kernel) (fun h34 => ?_) (fun h34 => ?_)
  · have hf := ite2_f hf h34
    obtain ⟨rfl, rfl⟩ := ret_e hf
    exact v_vret C hr (by decide +kernel)
  · have hf := ite2_t hf h34
    refine v_aload_n C 0 0 rfl 102 rfl (by decide +kernel) ?_
    refine v_ldcS C 113 "count" 7 (by decide) 104 rfl (by decide +kernel) ?_
    obtain ⟨r36, σ35, hcr36, hf⟩ := cl2_e hf
    refine v_cV C 5 rfl (ns_kd_lt hk_a0 (by decide)) hk_a0 (by decide) [.ref (ns_sK G 7)] [] (c_Tape_isWord G l σ a0 7 hcr36) 40 1 tw_542 tw_539 tw_541 ts_23 tw_5 hd_Tape_isWord rfl ⟨(Nat.le_of_ble_eq_true rfl), (Nat.le_of_ble_eq_true rfl)⟩ ⟨(Nat.le_of_ble_eq_true rfl), (Nat.le_of_ble_eq_true rfl)⟩ (Nat.le_of_ble_eq_true rfl) rfl 107 rfl (by decide +kernel) [.int r36] rfl ?_
    refine v_if_eq C 127 110 rfl (by decide +kernel) (fun h37 => ?_) (fun h37 => ?_)
    · have hf := ite2_t hf h37
      obtain ⟨rfl, rfl⟩ := ret_e hf
      exact v_vret C hr (by decide +kernel)
    · have hf := ite2_f hf h37
      refine v_aload_n C 0 0 rfl 111 rfl (by decide +kernel) ?_
      obtain ⟨r39, σ38, hcr39, hf⟩ := cl2_e hf
      refine v_cV C 5 rfl (ns_kd_lt hk_a0 (by decide)) hk_a0 (by decide) [] [] (c_Tape_nextToken G l σ35 a0 hcr39) 25 0 tw_530 tw_527 tw_529 ts_21 tw_5 hd_Tape_nextToken rfl ⟨(Nat.le_of_ble_eq_true rfl), (Nat.le_of_ble_eq_true rfl)⟩ ⟨(Nat.le_of_ble_eq_true rfl), (Nat.le_of_ble_eq_true rfl)⟩ (Nat.le_of_ble_eq_true rfl) rfl 114 rfl (by decide +kernel) [] rfl ?_
      refine v_aload_n C 2 1 rfl 115 rfl (by decide +kernel) ?_
      refine v_aload_n C 0 0 rfl 116 rfl (by decide +kernel) ?_
      refine v_iconst C (0) (0) (by decide) 117 rfl (by decide +kernel) ?_
      refine v_iload C 4 2 rfl 119 rfl (by decide +kernel) ?_
      refine v_iconst C (1) (1) (by decide) 120 rfl (by decide +kernel) ?_
      refine v_isub C 121 rfl (by decide +kernel) ?_
      obtain ⟨r41, σ40, hcr41, hf⟩ := cl2_e hf
      refine v_cV C 5 rfl (ns_kd_lt hk_a0 (by decide)) hk_a0 (by decide) [.int (0 : Int32), .int (x4 - (1 : Int32))] [.ref (G.1 + a2)] (c_Tape_takeNumber G l σ38 a0 (0 : Int32) (x4 - (1 : Int32)) hcr41) 85 2 tw_602 tw_599 tw_601 ts_25 tw_5 hd_Tape_takeNumber rfl ⟨(Nat.le_of_ble_eq_true rfl), (Nat.le_of_ble_eq_true rfl)⟩ ⟨(Nat.le_of_ble_eq_true rfl), (Nat.le_of_ble_eq_true rfl)⟩ (Nat.le_of_ble_eq_true rfl) rfl 124 rfl (by decide +kernel) [.int r41, .ref (G.1 + a2)] rfl ?_
      obtain ⟨σ42, hσ42, hf⟩ := bnd_e hf
      refine v_putIN C 2 3 hσ42 rfl nin_2 ny_2 nty_2 nnm_2 (ns_kd_lt hk_a2 (by decide)) hk_a2 (by decide) (by decide) rfl rfl rfl rfl 115 tw_96 rfl 127 rfl (by decide +kernel) ?_
      obtain ⟨rfl, rfl⟩ := ret_e hf
      exact v_vret C hr (by decide +kernel)
theorem c_Tape_readMule (G : ns_G) (l : Launch) (σ : ns_St) (a0 : Nat) (a1 : Nat) {r : Unit} {σ' : ns_St} (hf : g_Tape_readMule σ a0 a1 = some (r, σ')) : ns_ok G l ⟨"NinthStep$Tape", "readMule", "(LNinthStep$World;)V"⟩ prog_7_method_7_code 6 none 5 107 0 0 [.ref (G.1 + a0), .ref (G.1 + a1)] ns_N σ none ns_N σ' := by
  refine v_open (by decide) (Nat.le_of_ble_eq_true rfl) rfl ?_
  intro p e s m below meth c C hr _
  have C : ns_Cx G p s m _ meth c prog_7_method_7_code "NinthStep$Tape" 6 := C
  unfold g_Tape_readMule at hf
  obtain ⟨hk_a0, hf⟩ := grd_e hf
  obtain ⟨hk_a1, hf⟩ := grd_e hf
  refine v_aload_n C 1 1 rfl 1 rfl (by decide +kernel) ?_
  obtain ⟨r44, σ43, hcr44, hf⟩ := cl2_e hf
  rcases r44 with _ | b45
  · have hf := onul_n hf
    refine v_cVN C 7 rfl (ns_kd_lt hk_a1 (by decide)) hk_a1 (by decide) [] [] (c_World_newMule G l σ a1 hcr44) 99 0 tw_477 tw_623 tw_476 ts_14 tw_2 hd_World_newMule rfl ⟨(Nat.le_of_ble_eq_true rfl), (Nat.le_of_ble_eq_true rfl)⟩ ⟨(Nat.le_of_ble_eq_true rfl), (Nat.le_of_ble_eq_true rfl)⟩ (Nat.le_of_ble_eq_true rfl) rfl 4 rfl (by decide +kernel) [.null] rfl ?_
    refine v_astore_nN C 2 [(2, .null), (0, .ref (G.1 + a0)), (1, .ref (G.1 + a1))] (by decide) rfl 5 rfl (by decide +kernel) ?_
    refine v_aload_nN C 2 0 rfl 6 rfl (by decide +kernel) ?_
    refine v_ifnonnullN C 18 9 rfl (by decide +kernel) ?_
    refine v_aload_n C 0 1 rfl 10 rfl (by decide +kernel) ?_
    refine v_aload_n C 0 1 rfl 11 rfl (by decide +kernel) ?_
    refine v_getI C 5 4 rfl nin_5 (ns_kd_lt hk_a0 (by decide)) hk_a0 (by decide) (by decide) rfl 35 tw_169 rfl 14 rfl (by decide +kernel) ?_
    obtain ⟨σ46, hσ46, hf⟩ := bnd_e hf
    refine v_putI C 5 2 hσ46 rfl nin_5 ny_5 nty_5 nnm_5 (ns_kd_lt hk_a0 (by decide)) hk_a0 (by decide) (by decide) rfl rfl rfl rfl 19 tw_166 rfl 17 rfl (by decide +kernel) ?_
    obtain ⟨rfl, rfl⟩ := ret_e hf
    exact v_vret C hr (by decide +kernel)
  · have hf := onul_s hf
    obtain ⟨hk_b45, hf⟩ := grd_e hf
    refine v_cVN C 7 rfl (ns_kd_lt hk_a1 (by decide)) hk_a1 (by decide) [] [] (c_World_newMule G l σ a1 hcr44) 99 0 tw_477 tw_623 tw_476 ts_14 tw_2 hd_World_newMule rfl ⟨(Nat.le_of_ble_eq_true rfl), (Nat.le_of_ble_eq_true rfl)⟩ ⟨(Nat.le_of_ble_eq_true rfl), (Nat.le_of_ble_eq_true rfl)⟩ (Nat.le_of_ble_eq_true rfl) rfl 4 rfl (by decide +kernel) [.ref (G.1 + b45)] rfl ?_
    refine v_astore_n C 2 [(2, .ref (G.1 + b45)), (0, .ref (G.1 + a0)), (1, .ref (G.1 + a1))] (by decide) rfl 5 rfl (by decide +kernel) ?_
    refine v_aload_n C 2 0 rfl 6 rfl (by decide +kernel) ?_
    refine v_ifnonnull C 18 (by decide +kernel) ?_
    refine v_aload_n C 0 1 rfl 19 rfl (by decide +kernel) ?_
    obtain ⟨r48, σ47, hcr48, hf⟩ := cl2_e hf
    refine v_cV C 5 rfl (ns_kd_lt hk_a0 (by decide)) hk_a0 (by decide) [] [] (c_Tape_nextToken G l σ43 a0 hcr48) 25 0 tw_530 tw_527 tw_529 ts_21 tw_5 hd_Tape_nextToken rfl ⟨(Nat.le_of_ble_eq_true rfl), (Nat.le_of_ble_eq_true rfl)⟩ ⟨(Nat.le_of_ble_eq_true rfl), (Nat.le_of_ble_eq_true rfl)⟩ (Nat.le_of_ble_eq_true rfl) rfl 22 rfl (by decide +kernel) [] rfl ?_
    refine v_aload_n C 0 1 rfl 23 rfl (by decide +kernel) ?_
    refine v_iconst C (0) (0) (by decide) 24 rfl (by decide +kernel) ?_
    refine v_iconst C (5) (5) (by decide) 25 rfl (by decide +kernel) ?_
    obtain ⟨r50, σ49, hcr50, hf⟩ := cl2_e hf
    refine v_cV C 5 rfl (ns_kd_lt hk_a0 (by decide)) hk_a0 (by decide) [.int (0 : Int32), .int (5 : Int32)] [] (c_Tape_takeNumber G l σ47 a0 (0 : Int32) (5 : Int32) hcr50) 85 2 tw_602 tw_599 tw_601 ts_25 tw_5 hd_Tape_takeNumber rfl ⟨(Nat.le_of_ble_eq_true rfl), (Nat.le_of_ble_eq_true rfl)⟩ ⟨(Nat.le_of_ble_eq_true rfl), (Nat.le_of_ble_eq_true rfl)⟩ (Nat.le_of_ble_eq_true rfl) rfl 28 rfl (by decide +kernel) [.int r50] rfl ?_
    refine v_istore_n C 3 [(3, .int r50), (2, .ref (G.1 + b45)), (0, .ref (G.1 + a0)), (1, .ref (G.1 + a1))] (by decide) rfl 29 rfl (by decide +kernel) ?_
    refine v_aload_n C 0 2 rfl 30 rfl (by decide +kernel) ?_
    refine v_iconst C (2) (2) (by decide) 31 rfl (by decide +kernel) ?_
    refine v_bipush C (13) (13) (by decide) 33 rfl (by decide +kernel) ?_
    obtain ⟨r52, σ51, hcr52, hf⟩ := cl2_e hf
    refine v_cV C 5 rfl (ns_kd_lt hk_a0 (by decide)) hk_a0 (by decide) [.int (2 : Int32), .int (13 : Int32)] [] (c_Tape_takeNumber G l σ49 a0 (2 : Int32) (13 : Int32) hcr52) 85 2 tw_602 tw_599 tw_601 ts_25 tw_5 hd_Tape_takeNumber rfl ⟨(Nat.le_of_ble_eq_true rfl), (Nat.le_of_ble_eq_true rfl)⟩ ⟨(Nat.le_of_ble_eq_true rfl), (Nat.le_of_ble_eq_true rfl)⟩ (Nat.le_of_ble_eq_true rfl) rfl 36 rfl (by decide +kernel) [.int r52] rfl ?_
    refine v_istore C 4 [(4, .int r52), (3, .int r50), (2, .ref (G.1 + b45)), (0, .ref (G.1 + a0)), (1, .ref (G.1 + a1))] (by decide) rfl 38 rfl (by decide +kernel) ?_
    refine v_aload_n C 0 3 rfl 39 rfl (by decide +kernel) ?_
    refine v_iconst C (0) (0) (by decide) 40 rfl (by decide +kernel) ?_
    refine v_bipush C (9) (9) (by decide) 42 rfl (by decide +kernel) ?_
    obtain ⟨r54, σ53, hcr54, hf⟩ := cl2_e hf
    refine v_cV C 5 rfl (ns_kd_lt hk_a0 (by decide)) hk_a0 (by decide) [.int (0 : Int32), .int (9 : Int32)] [] (c_Tape_takeNumber G l σ51 a0 (0 : Int32) (9 : Int32) hcr54) 85 2 tw_602 tw_599 tw_601 ts_25 tw_5 hd_Tape_takeNumber rfl ⟨(Nat.le_of_ble_eq_true rfl), (Nat.le_of_ble_eq_true rfl)⟩ ⟨(Nat.le_of_ble_eq_true rfl), (Nat.le_of_ble_eq_true rfl)⟩ (Nat.le_of_ble_eq_true rfl) rfl 45 rfl (by decide +kernel) [.int r54] rfl ?_
    refine v_istore C 5 [(5, .int r54), (4, .int r52), (3, .int r50), (2, .ref (G.1 + b45)), (0, .ref (G.1 + a0)), (1, .ref (G.1 + a1))] (by decide) rfl 47 rfl (by decide +kernel) ?_
    refine v_aload_n C 2 3 rfl 48 rfl (by decide +kernel) ?_
    refine v_iload_n C 3 2 rfl 49 rfl (by decide +kernel) ?_
    refine v_iload C 4 1 rfl 51 rfl (by decide +kernel) ?_
    refine v_iload C 5 0 rfl 53 rfl (by decide +kernel) ?_
    obtain ⟨r56, σ55, hcr56, hf⟩ := cl2_e hf
    refine v_cVN C 2 rfl (ns_kd_lt hk_b45 (by decide)) hk_b45 (by decide) [.int r50, .int r52, .int r54] [] (c_Mule_become G l σ53 b45 r50 r52 r54 hcr56) 103 3 tw_481 tw_624 tw_480 ts_15 tw_4 hd_Mule_become rfl ⟨(Nat.le_of_ble_eq_true rfl), (Nat.le_of_ble_eq_true rfl)⟩ ⟨(Nat.le_of_ble_eq_true rfl), (Nat.le_of_ble_eq_true rfl)⟩ (Nat.le_of_ble_eq_true rfl) rfl 56 rfl (by decide +kernel) [] rfl ?_
    refine v_aload_n C 0 4 rfl 57 rfl (by decide +kernel) ?_
    refine v_getI C 5 2 rfl nin_5 (ns_kd_lt hk_a0 (by decide)) hk_a0 (by decide) (by decide) rfl 19 tw_166 rfl 60 rfl (by decide +kernel) ?_
    refine v_iconst C (-1) (-1) (by decide) 61 rfl (by decide +kernel) ?_
    refine v_icmp_ne C 93 64 rfl (by decide +kernel) (fun h57 => ?_) (fun h57 => ?_)
    · have hf := ite2_f hf h57
      refine v_sub [4, 3, 1] rfl ?_
      exact t_Tape_readMule_93 G l C hr  σ55 a0 b45 r52 hk_a0 hk_b45 hf
    · have hf := ite2_t hf h57
      refine v_aload_n C 0 4 rfl 65 rfl (by decide +kernel) ?_
      refine v_ldcS C 109 "at" 6 (by decide) 67 rfl (by decide +kernel) ?_
      obtain ⟨r59, σ58, hcr59, hf⟩ := cl2_e hf
      refine v_cV C 5 rfl (ns_kd_lt hk_a0 (by decide)) hk_a0 (by decide) [.ref (ns_sK G 6)] [] (c_Tape_isWord G l σ55 a0 6 hcr59) 40 1 tw_542 tw_539 tw_541 ts_23 tw_5 hd_Tape_isWord rfl ⟨(Nat.le_of_ble_eq_true rfl), (Nat.le_of_ble_eq_true rfl)⟩ ⟨(Nat.le_of_ble_eq_true rfl), (Nat.le_of_ble_eq_true rfl)⟩ (Nat.le_of_ble_eq_true rfl) rfl 70 rfl (by decide +kernel) [.int r59] rfl ?_
      refine v_if_eq C 93 73 rfl (by decide +kernel) (fun h60 => ?_) (fun h60 => ?_)
      · have hf := ite2_t hf h60
        refine v_sub [4, 3, 1] rfl ?_
        exact t_Tape_readMule_93 G l C hr  σ58 a0 b45 r52 hk_a0 hk_b45 hf
      · have hf := ite2_f hf h60
        refine v_aload_n C 0 4 rfl 74 rfl (by decide +kernel) ?_
        obtain ⟨r62, σ61, hcr62, hf⟩ := cl2_e hf
        refine v_cV C 5 rfl (ns_kd_lt hk_a0 (by decide)) hk_a0 (by decide) [] [] (c_Tape_nextToken G l σ58 a0 hcr62) 25 0 tw_530 tw_527 tw_529 ts_21 tw_5 hd_Tape_nextToken rfl ⟨(Nat.le_of_ble_eq_true rfl), (Nat.le_of_ble_eq_true rfl)⟩ ⟨(Nat.le_of_ble_eq_true rfl), (Nat.le_of_ble_eq_true rfl)⟩ (Nat.le_of_ble_eq_true rfl) rfl 77 rfl (by decide +kernel) [] rfl ?_
        refine v_aload_n C 2 3 rfl 78 rfl (by decide +kernel) ?_
        refine v_aload_n C 0 4 rfl 79 rfl (by decide +kernel) ?_
        refine v_iconst C (0) (0) (by decide) 80 rfl (by decide +kernel) ?_
        refine v_aload_n C 1 5 rfl 81 rfl (by decide +kernel) ?_
        obtain ⟨b63, hb63, hf⟩ := drf_e hf
        obtain ⟨hk_b63, hf⟩ := grd_e hf
        refine v_getRN C 7 0 hb63 rfl nin_7 (ns_kd_lt hk_a1 (by decide)) hk_a1 (by decide) (by decide) rfl 49 tw_127 rfl 84 rfl (by decide +kernel) ?_
        refine v_getIN C 1 0 rfl nin_1 (ns_kd_lt hk_b63 (by decide)) hk_b63 (by decide) (by decide) rfl 88 tw_43 rfl 87 rfl (by decide +kernel) ?_
        obtain ⟨r65, σ64, hcr65, hf⟩ := cl2_e hf
        refine v_cV C 5 rfl (ns_kd_lt hk_a0 (by decide)) hk_a0 (by decide) [.int (0 : Int32), .int (σ61.1 b63 0)] [.ref (G.1 + b45)] (c_Tape_takeNumber G l σ61 a0 (0 : Int32) (σ61.1 b63 0) hcr65) 85 2 tw_602 tw_599 tw_601 ts_25 tw_5 hd_Tape_takeNumber rfl ⟨(Nat.le_of_ble_eq_true rfl), (Nat.le_of_ble_eq_true rfl)⟩ ⟨(Nat.le_of_ble_eq_true rfl), (Nat.le_of_ble_eq_true rfl)⟩ (Nat.le_of_ble_eq_true rfl) rfl 90 rfl (by decide +kernel) [.int r65, .ref (G.1 + b45)] rfl ?_
        obtain ⟨σ66, hσ66, hf⟩ := bnd_e hf
        refine v_putIN C 2 2 hσ66 rfl nin_2 ny_2 nty_2 nnm_2 (ns_kd_lt hk_b45 (by decide)) hk_b45 (by decide) (by decide) rfl rfl rfl rfl 111 tw_92 rfl 93 rfl (by decide +kernel) ?_
        refine v_sub [4, 3, 1] rfl ?_
        exact t_Tape_readMule_93 G l C hr  σ66 a0 b45 r52 hk_a0 hk_b45 hf
theorem hd_Tape_readMule : (⟨"NinthStep$Tape", "readMule", "(LNinthStep$World;)V"⟩ : MethodName).cls = "NinthStep$Tape" ∧ (⟨"NinthStep$Tape", "readMule", "(LNinthStep$World;)V"⟩ : MethodName).cls ≠ "java/lang/invoke/MethodHandle" ∧ (⟨"NinthStep$Tape", "readMule", "(LNinthStep$World;)V"⟩ : MethodName).cls ≠ "java/lang/invoke/VarHandle" ∧ (parseMethodDescriptor (⟨"NinthStep$Tape", "readMule", "(LNinthStep$World;)V"⟩ : MethodName).desc).map (fun d => d.parameters.length) = some 1 := by decide +kernel
def g_Tape_readStatement (σ : ns_St) (a0 : Nat) (a1 : Nat) : Option (Unit × ns_St) := grd (ns_kd a0 = 5) <| grd (ns_kd a1 = 7) <| cl2 (g_Tape_isWord σ a0 0) fun r37 σ36 => ite2 (r37 = 0) (cl2 (g_Tape_isWord σ36 a0 1) fun r40 σ39 => ite2 (r40 = 0) (cl2 (g_Tape_isWord σ39 a0 2) fun r43 σ42 => ite2 (r43 = 0) (cl2 (g_Tape_isWord σ42 a0 3) fun r46 σ45 => ite2 (r46 = 0) (cl2 (g_Tape_isWord σ45 a0 4) fun r49 σ48 => ite2 (r49 = 0) (cl2 (g_Tape_isWord σ48 a0 5) fun r52 σ51 => ite2 (r52 = 0) (bnd (ns_pI σ51 a0 2 (σ51.1 a0 4)) fun σ54 => some ((), σ54)) (cl2 (g_Tape_readMule σ51 a0 a1) fun r56 σ55 => some ((), σ55))) (drf (σ48.2.2 a1 0) fun b57 => grd (ns_kd b57 = 1) <| cl2 (g_Tape_readMark σ48 a0 b57 (3 : Int32)) fun r59 σ58 => some ((), σ58))) (drf (σ45.2.2 a1 0) fun b60 => grd (ns_kd b60 = 1) <| cl2 (g_Tape_readMark σ45 a0 b60 (2 : Int32)) fun r62 σ61 => some ((), σ61))) (drf (σ42.2.2 a1 0) fun b63 => grd (ns_kd b63 = 1) <| cl2 (g_Tape_readMark σ42 a0 b63 (1 : Int32)) fun r65 σ64 => some ((), σ64))) (drf (σ39.2.2 a1 0) fun b66 => grd (ns_kd b66 = 1) <| cl2 (g_Tape_readMark σ39 a0 b66 (0 : Int32)) fun r68 σ67 => some ((), σ67))) (cl2 (g_Tape_readLength σ36 a0 a1) fun r70 σ69 => some ((), σ69))
theorem c_Tape_readStatement (G : ns_G) (l : Launch) (σ : ns_St) (a0 : Nat) (a1 : Nat) {r : Unit} {σ' : ns_St} (hf : g_Tape_readStatement σ a0 a1 = some (r, σ')) : ns_ok G l ⟨"NinthStep$Tape", "readStatement", "(LNinthStep$World;)V"⟩ prog_7_method_4_code 2 none 6 132 0 0 [.ref (G.1 + a0), .ref (G.1 + a1)] ns_N σ none ns_N σ' := by
  refine v_open (by decide) (Nat.le_of_ble_eq_true rfl) rfl ?_
  intro p e s m below meth c C hr _
  have C : ns_Cx G p s m _ meth c prog_7_method_4_code "NinthStep$Tape" 2 := C
  unfold g_Tape_readStatement at hf
  obtain ⟨hk_a0, hf⟩ := grd_e hf
  obtain ⟨hk_a1, hf⟩ := grd_e hf
  refine v_aload_n C 0 0 rfl 1 rfl (by decide +kernel) ?_
  refine v_ldcS C 38 "length" 0 (by decide) 3 rfl (by decide +kernel) ?_
  obtain ⟨r37, σ36, hcr37, hf⟩ := cl2_e hf
  refine v_cV C 5 rfl (ns_kd_lt hk_a0 (by decide)) hk_a0 (by decide) [.ref (ns_sK G 0)] [] (c_Tape_isWord G l σ a0 0 hcr37) 40 1 tw_542 tw_539 tw_541 ts_23 tw_5 hd_Tape_isWord rfl ⟨(Nat.le_of_ble_eq_true rfl), (Nat.le_of_ble_eq_true rfl)⟩ ⟨(Nat.le_of_ble_eq_true rfl), (Nat.le_of_ble_eq_true rfl)⟩ (Nat.le_of_ble_eq_true rfl) rfl 6 rfl (by decide +kernel) [.int r37] rfl ?_
  refine v_if_eq C 17 9 rfl (by decide +kernel) (fun h38 => ?_) (fun h38 => ?_)
  · have hf := ite2_t hf h38
    refine v_aload_n C 0 0 rfl 18 rfl (by decide +kernel) ?_
    refine v_ldcS C 47 "stone" 1 (by decide) 20 rfl (by decide +kernel) ?_
    obtain ⟨r40, σ39, hcr40, hf⟩ := cl2_e hf
    refine v_cV C 5 rfl (ns_kd_lt hk_a0 (by decide)) hk_a0 (by decide) [.ref (ns_sK G 1)] [] (c_Tape_isWord G l σ36 a0 1 hcr40) 40 1 tw_542 tw_539 tw_541 ts_23 tw_5 hd_Tape_isWord rfl ⟨(Nat.le_of_ble_eq_true rfl), (Nat.le_of_ble_eq_true rfl)⟩ ⟨(Nat.le_of_ble_eq_true rfl), (Nat.le_of_ble_eq_true rfl)⟩ (Nat.le_of_ble_eq_true rfl) rfl 23 rfl (by decide +kernel) [.int r40] rfl ?_
    refine v_if_eq C 38 26 rfl (by decide +kernel) (fun h41 => ?_) (fun h41 => ?_)
    · have hf := ite2_t hf h41
      refine v_aload_n C 0 0 rfl 39 rfl (by decide +kernel) ?_
      refine v_ldcS C 59 "inn" 2 (by decide) 41 rfl (by decide +kernel) ?_
      obtain ⟨r43, σ42, hcr43, hf⟩ := cl2_e hf
      refine v_cV C 5 rfl (ns_kd_lt hk_a0 (by decide)) hk_a0 (by decide) [.ref (ns_sK G 2)] [] (c_Tape_isWord G l σ39 a0 2 hcr43) 40 1 tw_542 tw_539 tw_541 ts_23 tw_5 hd_Tape_isWord rfl ⟨(Nat.le_of_ble_eq_true rfl), (Nat.le_of_ble_eq_true rfl)⟩ ⟨(Nat.le_of_ble_eq_true rfl), (Nat.le_of_ble_eq_true rfl)⟩ (Nat.le_of_ble_eq_true rfl) rfl 44 rfl (by decide +kernel) [.int r43] rfl ?_
      refine v_if_eq C 59 47 rfl (by decide +kernel) (fun h44 => ?_) (fun h44 => ?_)
      · have hf := ite2_t hf h44
        refine v_aload_n C 0 0 rfl 60 rfl (by decide +kernel) ?_
        refine v_ldcS C 61 "cliff" 3 (by decide) 62 rfl (by decide +kernel) ?_
        obtain ⟨r46, σ45, hcr46, hf⟩ := cl2_e hf
        refine v_cV C 5 rfl (ns_kd_lt hk_a0 (by decide)) hk_a0 (by decide) [.ref (ns_sK G 3)] [] (c_Tape_isWord G l σ42 a0 3 hcr46) 40 1 tw_542 tw_539 tw_541 ts_23 tw_5 hd_Tape_isWord rfl ⟨(Nat.le_of_ble_eq_true rfl), (Nat.le_of_ble_eq_true rfl)⟩ ⟨(Nat.le_of_ble_eq_true rfl), (Nat.le_of_ble_eq_true rfl)⟩ (Nat.le_of_ble_eq_true rfl) rfl 65 rfl (by decide +kernel) [.int r46] rfl ?_
        refine v_if_eq C 80 68 rfl (by decide +kernel) (fun h47 => ?_) (fun h47 => ?_)
        · have hf := ite2_t hf h47
          refine v_aload_n C 0 0 rfl 81 rfl (by decide +kernel) ?_
          refine v_ldcS C 63 "view" 4 (by decide) 83 rfl (by decide +kernel) ?_
          obtain ⟨r49, σ48, hcr49, hf⟩ := cl2_e hf
          refine v_cV C 5 rfl (ns_kd_lt hk_a0 (by decide)) hk_a0 (by decide) [.ref (ns_sK G 4)] [] (c_Tape_isWord G l σ45 a0 4 hcr49) 40 1 tw_542 tw_539 tw_541 ts_23 tw_5 hd_Tape_isWord rfl ⟨(Nat.le_of_ble_eq_true rfl), (Nat.le_of_ble_eq_true rfl)⟩ ⟨(Nat.le_of_ble_eq_true rfl), (Nat.le_of_ble_eq_true rfl)⟩ (Nat.le_of_ble_eq_true rfl) rfl 86 rfl (by decide +kernel) [.int r49] rfl ?_
          refine v_if_eq C 101 89 rfl (by decide +kernel) (fun h50 => ?_) (fun h50 => ?_)
          · have hf := ite2_t hf h50
            refine v_aload_n C 0 0 rfl 102 rfl (by decide +kernel) ?_
            refine v_ldcS C 65 "mule" 5 (by decide) 104 rfl (by decide +kernel) ?_
            obtain ⟨r52, σ51, hcr52, hf⟩ := cl2_e hf
            refine v_cV C 5 rfl (ns_kd_lt hk_a0 (by decide)) hk_a0 (by decide) [.ref (ns_sK G 5)] [] (c_Tape_isWord G l σ48 a0 5 hcr52) 40 1 tw_542 tw_539 tw_541 ts_23 tw_5 hd_Tape_isWord rfl ⟨(Nat.le_of_ble_eq_true rfl), (Nat.le_of_ble_eq_true rfl)⟩ ⟨(Nat.le_of_ble_eq_true rfl), (Nat.le_of_ble_eq_true rfl)⟩ (Nat.le_of_ble_eq_true rfl) rfl 107 rfl (by decide +kernel) [.int r52] rfl ?_
            refine v_if_eq C 118 110 rfl (by decide +kernel) (fun h53 => ?_) (fun h53 => ?_)
            · have hf := ite2_t hf h53
              refine v_aload_n C 0 0 rfl 119 rfl (by decide +kernel) ?_
              refine v_aload_n C 0 0 rfl 120 rfl (by decide +kernel) ?_
              refine v_getI C 5 4 rfl nin_5 (ns_kd_lt hk_a0 (by decide)) hk_a0 (by decide) (by decide) rfl 35 tw_169 rfl 123 rfl (by decide +kernel) ?_
              obtain ⟨σ54, hσ54, hf⟩ := bnd_e hf
              refine v_putI C 5 2 hσ54 rfl nin_5 ny_5 nty_5 nnm_5 (ns_kd_lt hk_a0 (by decide)) hk_a0 (by decide) (by decide) rfl rfl rfl rfl 19 tw_166 rfl 126 rfl (by decide +kernel) ?_
              obtain ⟨rfl, rfl⟩ := ret_e hf
              exact v_vret C hr (by decide +kernel)
            · have hf := ite2_f hf h53
              refine v_aload_n C 0 0 rfl 111 rfl (by decide +kernel) ?_
              refine v_aload_n C 1 1 rfl 112 rfl (by decide +kernel) ?_
              obtain ⟨r56, σ55, hcr56, hf⟩ := cl2_e hf
              refine v_cV C 5 rfl (ns_kd_lt hk_a0 (by decide)) hk_a0 (by decide) [.ref (G.1 + a1)] [] (c_Tape_readMule G l σ51 a0 a1 hcr56) 67 1 tw_622 tw_619 tw_621 ts_28 tw_5 hd_Tape_readMule rfl ⟨(Nat.le_of_ble_eq_true rfl), (Nat.le_of_ble_eq_true rfl)⟩ ⟨(Nat.le_of_ble_eq_true rfl), (Nat.le_of_ble_eq_true rfl)⟩ (Nat.le_of_ble_eq_true rfl) rfl 115 rfl (by decide +kernel) [] rfl ?_
              refine v_goto C 126 (by decide +kernel) ?_
              obtain ⟨rfl, rfl⟩ := ret_e hf
              exact v_vret C hr (by decide +kernel)
          · have hf := ite2_f hf h50
            refine v_aload_n C 0 0 rfl 90 rfl (by decide +kernel) ?_
            refine v_aload_n C 1 1 rfl 91 rfl (by decide +kernel) ?_
            obtain ⟨b57, hb57, hf⟩ := drf_e hf
            obtain ⟨hk_b57, hf⟩ := grd_e hf
            refine v_getRN C 7 0 hb57 rfl nin_7 (ns_kd_lt hk_a1 (by decide)) hk_a1 (by decide) (by decide) rfl 49 tw_127 rfl 94 rfl (by decide +kernel) ?_
            refine v_iconst C (3) (3) (by decide) 95 rfl (by decide +kernel) ?_
            obtain ⟨r59, σ58, hcr59, hf⟩ := cl2_e hf
            refine v_cV C 5 rfl (ns_kd_lt hk_a0 (by decide)) hk_a0 (by decide) [.ref (G.1 + b57), .int (3 : Int32)] [] (c_Tape_readMark G l σ48 a0 b57 (3 : Int32) hcr59) 55 2 tw_612 tw_609 tw_611 ts_27 tw_5 hd_Tape_readMark rfl ⟨(Nat.le_of_ble_eq_true rfl), (Nat.le_of_ble_eq_true rfl)⟩ ⟨(Nat.le_of_ble_eq_true rfl), (Nat.le_of_ble_eq_true rfl)⟩ (Nat.le_of_ble_eq_true rfl) rfl 98 rfl (by decide +kernel) [] rfl ?_
            refine v_goto C 126 (by decide +kernel) ?_
            obtain ⟨rfl, rfl⟩ := ret_e hf
            exact v_vret C hr (by decide +kernel)
        · have hf := ite2_f hf h47
          refine v_aload_n C 0 0 rfl 69 rfl (by decide +kernel) ?_
          refine v_aload_n C 1 1 rfl 70 rfl (by decide +kernel) ?_
          obtain ⟨b60, hb60, hf⟩ := drf_e hf
          obtain ⟨hk_b60, hf⟩ := grd_e hf
          refine v_getRN C 7 0 hb60 rfl nin_7 (ns_kd_lt hk_a1 (by decide)) hk_a1 (by decide) (by decide) rfl 49 tw_127 rfl 73 rfl (by decide +kernel) ?_
          refine v_iconst C (2) (2) (by decide) 74 rfl (by decide +kernel) ?_
          obtain ⟨r62, σ61, hcr62, hf⟩ := cl2_e hf
          refine v_cV C 5 rfl (ns_kd_lt hk_a0 (by decide)) hk_a0 (by decide) [.ref (G.1 + b60), .int (2 : Int32)] [] (c_Tape_readMark G l σ45 a0 b60 (2 : Int32) hcr62) 55 2 tw_612 tw_609 tw_611 ts_27 tw_5 hd_Tape_readMark rfl ⟨(Nat.le_of_ble_eq_true rfl), (Nat.le_of_ble_eq_true rfl)⟩ ⟨(Nat.le_of_ble_eq_true rfl), (Nat.le_of_ble_eq_true rfl)⟩ (Nat.le_of_ble_eq_true rfl) rfl 77 rfl (by decide +kernel) [] rfl ?_
          refine v_goto C 126 (by decide +kernel) ?_
          obtain ⟨rfl, rfl⟩ := ret_e hf
          exact v_vret C hr (by decide +kernel)
      · have hf := ite2_f hf h44
        refine v_aload_n C 0 0 rfl 48 rfl (by decide +kernel) ?_
        refine v_aload_n C 1 1 rfl 49 rfl (by decide +kernel) ?_
        obtain ⟨b63, hb63, hf⟩ := drf_e hf
        obtain ⟨hk_b63, hf⟩ := grd_e hf
        refine v_getRN C 7 0 hb63 rfl nin_7 (ns_kd_lt hk_a1 (by decide)) hk_a1 (by decide) (by decide) rfl 49 tw_127 rfl 52 rfl (by decide +kernel) ?_
        refine v_iconst C (1) (1) (by decide) 53 rfl (by decide +kernel) ?_
        obtain ⟨r65, σ64, hcr65, hf⟩ := cl2_e hf
        refine v_cV C 5 rfl (ns_kd_lt hk_a0 (by decide)) hk_a0 (by decide) [.ref (G.1 + b63), .int (1 : Int32)] [] (c_Tape_readMark G l σ42 a0 b63 (1 : Int32) hcr65) 55 2 tw_612 tw_609 tw_611 ts_27 tw_5 hd_Tape_readMark rfl ⟨(Nat.le_of_ble_eq_true rfl), (Nat.le_of_ble_eq_true rfl)⟩ ⟨(Nat.le_of_ble_eq_true rfl), (Nat.le_of_ble_eq_true rfl)⟩ (Nat.le_of_ble_eq_true rfl) rfl 56 rfl (by decide +kernel) [] rfl ?_
        refine v_goto C 126 (by decide +kernel) ?_
        obtain ⟨rfl, rfl⟩ := ret_e hf
        exact v_vret C hr (by decide +kernel)
    · have hf := ite2_f hf h41
      refine v_aload_n C 0 0 rfl 27 rfl (by decide +kernel) ?_
      refine v_aload_n C 1 1 rfl 28 rfl (by decide +kernel) ?_
      obtain ⟨b66, hb66, hf⟩ := drf_e hf
      obtain ⟨hk_b66, hf⟩ := grd_e hf
      refine v_getRN C 7 0 hb66 rfl nin_7 (ns_kd_lt hk_a1 (by decide)) hk_a1 (by decide) (by decide) rfl 49 tw_127 rfl 31 rfl (by decide +kernel) ?_
      refine v_iconst C (0) (0) (by decide) 32 rfl (by decide +kernel) ?_
      obtain ⟨r68, σ67, hcr68, hf⟩ := cl2_e hf
      refine v_cV C 5 rfl (ns_kd_lt hk_a0 (by decide)) hk_a0 (by decide) [.ref (G.1 + b66), .int (0 : Int32)] [] (c_Tape_readMark G l σ39 a0 b66 (0 : Int32) hcr68) 55 2 tw_612 tw_609 tw_611 ts_27 tw_5 hd_Tape_readMark rfl ⟨(Nat.le_of_ble_eq_true rfl), (Nat.le_of_ble_eq_true rfl)⟩ ⟨(Nat.le_of_ble_eq_true rfl), (Nat.le_of_ble_eq_true rfl)⟩ (Nat.le_of_ble_eq_true rfl) rfl 35 rfl (by decide +kernel) [] rfl ?_
      refine v_goto C 126 (by decide +kernel) ?_
      obtain ⟨rfl, rfl⟩ := ret_e hf
      exact v_vret C hr (by decide +kernel)
  · have hf := ite2_f hf h38
    refine v_aload_n C 0 0 rfl 10 rfl (by decide +kernel) ?_
    refine v_aload_n C 1 1 rfl 11 rfl (by decide +kernel) ?_
    obtain ⟨r70, σ69, hcr70, hf⟩ := cl2_e hf
    refine v_cV C 5 rfl (ns_kd_lt hk_a0 (by decide)) hk_a0 (by decide) [.ref (G.1 + a1)] [] (c_Tape_readLength G l σ36 a0 a1 hcr70) 44 1 tw_594 tw_591 tw_593 ts_24 tw_5 hd_Tape_readLength rfl ⟨(Nat.le_of_ble_eq_true rfl), (Nat.le_of_ble_eq_true rfl)⟩ ⟨(Nat.le_of_ble_eq_true rfl), (Nat.le_of_ble_eq_true rfl)⟩ (Nat.le_of_ble_eq_true rfl) rfl 14 rfl (by decide +kernel) [] rfl ?_
    refine v_goto C 126 (by decide +kernel) ?_
    obtain ⟨rfl, rfl⟩ := ret_e hf
    exact v_vret C hr (by decide +kernel)
theorem hd_Tape_readStatement : (⟨"NinthStep$Tape", "readStatement", "(LNinthStep$World;)V"⟩ : MethodName).cls = "NinthStep$Tape" ∧ (⟨"NinthStep$Tape", "readStatement", "(LNinthStep$World;)V"⟩ : MethodName).cls ≠ "java/lang/invoke/MethodHandle" ∧ (⟨"NinthStep$Tape", "readStatement", "(LNinthStep$World;)V"⟩ : MethodName).cls ≠ "java/lang/invoke/VarHandle" ∧ (parseMethodDescriptor (⟨"NinthStep$Tape", "readStatement", "(LNinthStep$World;)V"⟩ : MethodName).desc).map (fun d => d.parameters.length) = some 1 := by decide +kernel
def g_Tape_readInto_55 (kh12 : ns_St → Nat → Nat → Int32 → Option (Int32 × ns_St)) (σ : ns_St) (a0 : Nat) (a1 : Nat) (x2 : Int32) : Option (Int32 × ns_St) := ite2 ((σ.1 a0 2) = (-1 : Int32)) (ite2 ((σ.1 a0 3) = (3 : Int32)) (ite2 (x2 ≤ (250 : Int32)) (kh12 σ a0 a1 x2) (some (x2, σ))) (some (x2, σ))) (some (x2, σ))
def g_Tape_readInto_12  : Nat → ns_St → Nat → Nat → Int32 → Option (Int32 × ns_St)
  | 0, _, _, _, _ => none
  | f + 1, σ, a0, a1, x2 => cl2 (g_Tape_nextToken σ a0) fun r19 σ18 => cl2 (g_Tape_readStatement σ18 a0 a1) fun r21 σ20 => bnd (x2 + 1) fun z22 => ite2 ((σ20.1 a0 2) = (-1 : Int32)) (ite2 ((σ20.1 a0 3) = 0) (g_Tape_readInto_55 (g_Tape_readInto_12 f) σ20 a0 a1 z22) (ite2 ((σ20.1 a0 3) = (3 : Int32)) (g_Tape_readInto_55 (g_Tape_readInto_12 f) σ20 a0 a1 z22) (bnd (ns_pI σ20 a0 2 (σ20.1 a0 4)) fun σ26 => g_Tape_readInto_55 (g_Tape_readInto_12 f) σ26 a0 a1 z22))) (g_Tape_readInto_55 (g_Tape_readInto_12 f) σ20 a0 a1 z22)
def g_Tape_readInto (σ : ns_St) (a0 : Nat) (a1 : Nat) : Option (Int32 × ns_St) := grd (ns_kd a0 = 5) <| grd (ns_kd a1 = 7) <| bnd (ns_pI σ a0 2 (-1 : Int32)) fun σ27 => bnd (ns_pI σ27 a0 5 (0 : Int32)) fun σ28 => g_Tape_readInto_12 ns_F σ28 a0 a1 (0 : Int32)
theorem t_Tape_readInto_55 (G : ns_G) (l : Launch) {p : Program} {e : Env} {s : State} {m : MethodId} {args : Array Value} {below : List Frame} {meth : Method} {c : Code} (C : ns_Cx G p s m args meth c prog_7_method_3_code "NinthStep$Tape" 3) (hr : meth.sig.returnType = (some .int)) {r : Int32} {σ' : ns_St} {kh12 : ns_St → Nat → Nat → Int32 → Option (Int32 × ns_St)} (hkh12 : ∀ (σ : ns_St) (a0 : Nat) (a1 : Nat) (x2 : Int32), ns_kd a0 = 5 → ns_kd a1 = 7 → kh12 σ a0 a1 x2 = some (r, σ') → VV G p l e { frames := 7, cells := 0, slots := 0, locals := 153 } s m args below meth c 3 0 0 (MQ below (ns_Qc G (some (.int r)) ns_N σ') args s 0 0 (ns_A G)) ns_N σ 12 [(0, .ref (G.1 + a0)), (1, .ref (G.1 + a1)), (2, .int x2)] []) (σ : ns_St) (a0 : Nat) (a1 : Nat) (x2 : Int32) (hk_a0 : ns_kd a0 = 5) (hk_a1 : ns_kd a1 = 7) (hf : g_Tape_readInto_55 kh12 σ a0 a1 x2 = some (r, σ')) : VV G p l e { frames := 7, cells := 0, slots := 0, locals := 153 } s m args below meth c 3 0 0 (MQ below (ns_Qc G (some (.int r)) ns_N σ') args s 0 0 (ns_A G)) ns_N σ 55 [(0, .ref (G.1 + a0)), (1, .ref (G.1 + a1)), (2, .int x2)] [] := by
  unfold g_Tape_readInto_55 at hf
  refine v_aload_n C 0 0 rfl 56 rfl (by decide +kernel) ?_
  refine v_getI C 5 2 rfl nin_5 (ns_kd_lt hk_a0 (by decide)) hk_a0 (by decide) (by decide) rfl 19 tw_166 rfl 59 rfl (by decide +kernel) ?_
  refine v_iconst C (-1) (-1) (by decide) 60 rfl (by decide +kernel) ?_
  refine v_icmp_ne C 78 63 rfl (by decide +kernel) (fun h15 => ?_) (fun h15 => ?_)
  · have hf := ite2_f hf h15
    refine v_iload_n C 2 2 rfl 79 rfl (by decide +kernel) ?_
    obtain ⟨rfl, rfl⟩ := ret_e hf
    exact v_iret C hr (by decide +kernel)
  · have hf := ite2_t hf h15
    refine v_aload_n C 0 0 rfl 64 rfl (by decide +kernel) ?_
    refine v_getI C 5 3 rfl nin_5 (ns_kd_lt hk_a0 (by decide)) hk_a0 (by decide) (by decide) rfl 32 tw_168 rfl 67 rfl (by decide +kernel) ?_
    refine v_iconst C (3) (3) (by decide) 68 rfl (by decide +kernel) ?_
    refine v_icmp_ne C 78 71 rfl (by decide +kernel) (fun h16 => ?_) (fun h16 => ?_)
    · have hf := ite2_f hf h16
      refine v_iload_n C 2 2 rfl 79 rfl (by decide +kernel) ?_
      obtain ⟨rfl, rfl⟩ := ret_e hf
      exact v_iret C hr (by decide +kernel)
    · have hf := ite2_t hf h16
      refine v_iload_n C 2 2 rfl 72 rfl (by decide +kernel) ?_
      refine v_sipush C (250) (250) (by decide) 75 rfl (by decide +kernel) ?_
      refine v_icmp_le C 12 78 rfl (by decide +kernel) (fun h17 => ?_) (fun h17 => ?_)
      · have hf := ite2_t hf h17
        exact hkh12 σ a0 a1 x2 hk_a0 hk_a1 hf
      · have hf := ite2_f hf h17
        refine v_iload_n C 2 2 rfl 79 rfl (by decide +kernel) ?_
        obtain ⟨rfl, rfl⟩ := ret_e hf
        exact v_iret C hr (by decide +kernel)
theorem t_Tape_readInto_12 (G : ns_G) (l : Launch) {p : Program} {e : Env} {s : State} {m : MethodId} {args : Array Value} {below : List Frame} {meth : Method} {c : Code} (C : ns_Cx G p s m args meth c prog_7_method_3_code "NinthStep$Tape" 3) (hr : meth.sig.returnType = (some .int)) {r : Int32} {σ' : ns_St}  : ∀ (f : Nat) (σ : ns_St) (a0 : Nat) (a1 : Nat) (x2 : Int32) (hk_a0 : ns_kd a0 = 5) (hk_a1 : ns_kd a1 = 7), g_Tape_readInto_12 f σ a0 a1 x2 = some (r, σ') → VV G p l e { frames := 7, cells := 0, slots := 0, locals := 153 } s m args below meth c 3 0 0 (MQ below (ns_Qc G (some (.int r)) ns_N σ') args s 0 0 (ns_A G)) ns_N σ 12 [(0, .ref (G.1 + a0)), (1, .ref (G.1 + a1)), (2, .int x2)] [] := by
  intro f
  induction f with
  | zero =>
    intro σ a0 a1 x2 hk_a0 hk_a1 hf
    cases hf
  | succ f ih =>
    intro σ a0 a1 x2 hk_a0 hk_a1 hf
    rw [g_Tape_readInto_12] at hf
    refine v_aload_n C 0 0 rfl 13 rfl (by decide +kernel) ?_
    obtain ⟨r19, σ18, hcr19, hf⟩ := cl2_e hf
    refine v_cV C 5 rfl (ns_kd_lt hk_a0 (by decide)) hk_a0 (by decide) [] [] (c_Tape_nextToken G l σ a0 hcr19) 25 0 tw_530 tw_527 tw_529 ts_21 tw_5 hd_Tape_nextToken rfl ⟨(Nat.le_of_ble_eq_true rfl), (Nat.le_of_ble_eq_true rfl)⟩ ⟨(Nat.le_of_ble_eq_true rfl), (Nat.le_of_ble_eq_true rfl)⟩ (Nat.le_of_ble_eq_true rfl) rfl 16 rfl (by decide +kernel) [] rfl ?_
    refine v_aload_n C 0 0 rfl 17 rfl (by decide +kernel) ?_
    refine v_aload_n C 1 1 rfl 18 rfl (by decide +kernel) ?_
    obtain ⟨r21, σ20, hcr21, hf⟩ := cl2_e hf
    refine v_cV C 5 rfl (ns_kd_lt hk_a0 (by decide)) hk_a0 (by decide) [.ref (G.1 + a1)] [] (c_Tape_readStatement G l σ18 a0 a1 hcr21) 28 1 tw_537 tw_534 tw_536 ts_22 tw_5 hd_Tape_readStatement rfl ⟨(Nat.le_of_ble_eq_true rfl), (Nat.le_of_ble_eq_true rfl)⟩ ⟨(Nat.le_of_ble_eq_true rfl), (Nat.le_of_ble_eq_true rfl)⟩ (Nat.le_of_ble_eq_true rfl) rfl 21 rfl (by decide +kernel) [] rfl ?_
    obtain ⟨z22, hz22, hf⟩ := bnd_e hf
    refine v_iinc C 2 (1) 2 z22 rfl (by rw [hz22]; rfl) [(2, .int z22), (0, .ref (G.1 + a0)), (1, .ref (G.1 + a1))] (by decide) rfl 24 rfl (by decide +kernel) ?_
    refine v_aload_n C 0 1 rfl 25 rfl (by decide +kernel) ?_
    refine v_getI C 5 2 rfl nin_5 (ns_kd_lt hk_a0 (by decide)) hk_a0 (by decide) (by decide) rfl 19 tw_166 rfl 28 rfl (by decide +kernel) ?_
    refine v_iconst C (-1) (-1) (by decide) 29 rfl (by decide +kernel) ?_
    refine v_icmp_ne C 55 32 rfl (by decide +kernel) (fun h23 => ?_) (fun h23 => ?_)
    · have hf := ite2_f hf h23
      refine v_sub [1, 2, 0] rfl ?_
      exact t_Tape_readInto_55 G l C hr ih σ20 a0 a1 z22 hk_a0 hk_a1 hf
    · have hf := ite2_t hf h23
      refine v_aload_n C 0 1 rfl 33 rfl (by decide +kernel) ?_
      refine v_getI C 5 3 rfl nin_5 (ns_kd_lt hk_a0 (by decide)) hk_a0 (by decide) (by decide) rfl 32 tw_168 rfl 36 rfl (by decide +kernel) ?_
      refine v_if_eq C 55 39 rfl (by decide +kernel) (fun h24 => ?_) (fun h24 => ?_)
      · have hf := ite2_t hf h24
        refine v_sub [1, 2, 0] rfl ?_
        exact t_Tape_readInto_55 G l C hr ih σ20 a0 a1 z22 hk_a0 hk_a1 hf
      · have hf := ite2_f hf h24
        refine v_aload_n C 0 1 rfl 40 rfl (by decide +kernel) ?_
        refine v_getI C 5 3 rfl nin_5 (ns_kd_lt hk_a0 (by decide)) hk_a0 (by decide) (by decide) rfl 32 tw_168 rfl 43 rfl (by decide +kernel) ?_
        refine v_iconst C (3) (3) (by decide) 44 rfl (by decide +kernel) ?_
        refine v_icmp_eq C 55 47 rfl (by decide +kernel) (fun h25 => ?_) (fun h25 => ?_)
        · have hf := ite2_t hf h25
          refine v_sub [1, 2, 0] rfl ?_
          exact t_Tape_readInto_55 G l C hr ih σ20 a0 a1 z22 hk_a0 hk_a1 hf
        · have hf := ite2_f hf h25
          refine v_aload_n C 0 1 rfl 48 rfl (by decide +kernel) ?_
          refine v_aload_n C 0 1 rfl 49 rfl (by decide +kernel) ?_
          refine v_getI C 5 4 rfl nin_5 (ns_kd_lt hk_a0 (by decide)) hk_a0 (by decide) (by decide) rfl 35 tw_169 rfl 52 rfl (by decide +kernel) ?_
          obtain ⟨σ26, hσ26, hf⟩ := bnd_e hf
          refine v_putI C 5 2 hσ26 rfl nin_5 ny_5 nty_5 nnm_5 (ns_kd_lt hk_a0 (by decide)) hk_a0 (by decide) (by decide) rfl rfl rfl rfl 19 tw_166 rfl 55 rfl (by decide +kernel) ?_
          refine v_sub [1, 2, 0] rfl ?_
          exact t_Tape_readInto_55 G l C hr ih σ26 a0 a1 z22 hk_a0 hk_a1 hf
theorem c_Tape_readInto (G : ns_G) (l : Launch) (σ : ns_St) (a0 : Nat) (a1 : Nat) {r : Int32} {σ' : ns_St} (hf : g_Tape_readInto σ a0 a1 = some (r, σ')) : ns_ok G l ⟨"NinthStep$Tape", "readInto", "(LNinthStep$World;)I"⟩ prog_7_method_3_code 3 (some .int) 7 153 0 0 [.ref (G.1 + a0), .ref (G.1 + a1)] ns_N σ (some (.int r)) ns_N σ' := by
  refine v_open (by decide) (Nat.le_of_ble_eq_true rfl) rfl ?_
  intro p e s m below meth c C hr _
  have C : ns_Cx G p s m _ meth c prog_7_method_3_code "NinthStep$Tape" 3 := C
  unfold g_Tape_readInto at hf
  obtain ⟨hk_a0, hf⟩ := grd_e hf
  obtain ⟨hk_a1, hf⟩ := grd_e hf
  refine v_aload_n C 0 0 rfl 1 rfl (by decide +kernel) ?_
  refine v_iconst C (-1) (-1) (by decide) 2 rfl (by decide +kernel) ?_
  obtain ⟨σ27, hσ27, hf⟩ := bnd_e hf
  refine v_putI C 5 2 hσ27 rfl nin_5 ny_5 nty_5 nnm_5 (ns_kd_lt hk_a0 (by decide)) hk_a0 (by decide) (by decide) rfl rfl rfl rfl 19 tw_166 rfl 5 rfl (by decide +kernel) ?_
  refine v_aload_n C 0 0 rfl 6 rfl (by decide +kernel) ?_
  refine v_iconst C (0) (0) (by decide) 7 rfl (by decide +kernel) ?_
  obtain ⟨σ28, hσ28, hf⟩ := bnd_e hf
  refine v_putI C 5 5 hσ28 rfl nin_5 ny_5 nty_5 nnm_5 (ns_kd_lt hk_a0 (by decide)) hk_a0 (by decide) (by decide) rfl rfl rfl rfl 22 tw_170 rfl 10 rfl (by decide +kernel) ?_
  refine v_iconst C (0) (0) (by decide) 11 rfl (by decide +kernel) ?_
  refine v_istore_n C 2 [(2, .int (0 : Int32)), (0, .ref (G.1 + a0)), (1, .ref (G.1 + a1))] (by decide) rfl 12 rfl (by decide +kernel) ?_
  refine v_sub [1, 2, 0] rfl ?_
  exact t_Tape_readInto_12 G l C hr  ns_F σ28 a0 a1 (0 : Int32) hk_a0 hk_a1 hf
theorem hd_Tape_readInto : (⟨"NinthStep$Tape", "readInto", "(LNinthStep$World;)I"⟩ : MethodName).cls = "NinthStep$Tape" ∧ (⟨"NinthStep$Tape", "readInto", "(LNinthStep$World;)I"⟩ : MethodName).cls ≠ "java/lang/invoke/MethodHandle" ∧ (⟨"NinthStep$Tape", "readInto", "(LNinthStep$World;)I"⟩ : MethodName).cls ≠ "java/lang/invoke/VarHandle" ∧ (parseMethodDescriptor (⟨"NinthStep$Tape", "readInto", "(LNinthStep$World;)I"⟩ : MethodName).desc).map (fun d => d.parameters.length) = some 1 := by decide +kernel
def g_N_pass (σ : ns_St) (a0 : Nat) : Option (Int32 × ns_St) := grd (ns_kd a0 = 8) <| drf (σ.2.2 a0 2) fun b20 => grd (ns_kd b20 = 7) <| drf (σ.2.2 a0 0) fun b21 => grd (ns_kd b21 = 7) <| cl2 (g_World_takeFrom σ b20 b21) fun r23 σ22 => drf (σ22.2.2 a0 4) fun b24 => grd (ns_kd b24 = 5) <| drf (σ22.2.2 a0 2) fun b25 => grd (ns_kd b25 = 7) <| cl2 (g_Tape_readInto σ22 b24 b25) fun r27 σ26 => drf (σ26.2.2 a0 4) fun b28 => grd (ns_kd b28 = 5) <| bnd (ns_pI σ26 b28 1 (0 : Int32)) fun σ29 => drf (σ29.2.2 a0 4) fun b30 => grd (ns_kd b30 = 5) <| ite2 ((σ29.1 b30 2) = (-1 : Int32)) (drf (σ29.2.2 a0 0) fun b32 => grd (ns_kd b32 = 7) <| drf (σ29.2.2 a0 2) fun b33 => grd (ns_kd b33 = 7) <| cl2 (g_World_takeFrom σ29 b32 b33) fun r35 σ34 => some (r27, σ34)) (cl2 (g_N_refuse σ29 a0 (-2 : Int32)) fun r37 σ36 => drf (σ36.2.2 a0 4) fun b38 => grd (ns_kd b38 = 5) <| some (((-20 : Int32) - (σ36.1 b38 2)), σ36))
theorem c_N_pass (G : ns_G) (l : Launch) (σ : ns_St) (a0 : Nat) {r : Int32} {σ' : ns_St} (hf : g_N_pass σ a0 = some (r, σ')) : ns_ok G l ⟨"NinthStep", "pass", "()I"⟩ prog_1_method_17_code 2 (some .int) 8 175 0 0 [.ref (G.1 + a0)] ns_N σ (some (.int r)) ns_N σ' := by
  refine v_open (by decide) (Nat.le_of_ble_eq_true rfl) rfl ?_
  intro p e s m below meth c C hr _
  have C : ns_Cx G p s m _ meth c prog_1_method_17_code "NinthStep" 2 := C
  unfold g_N_pass at hf
  obtain ⟨hk_a0, hf⟩ := grd_e hf
  refine v_aload_n C 0 0 rfl 1 rfl (by decide +kernel) ?_
  obtain ⟨b20, hb20, hf⟩ := drf_e hf
  obtain ⟨hk_b20, hf⟩ := grd_e hf
  refine v_getR C 8 2 hb20 rfl nin_8 (ns_kd_lt hk_a0 (by decide)) hk_a0 (by decide) (by decide) rfl 19 tw_289 rfl 4 rfl (by decide +kernel) ?_
  refine v_aload_n C 0 0 rfl 5 rfl (by decide +kernel) ?_
  obtain ⟨b21, hb21, hf⟩ := drf_e hf
  obtain ⟨hk_b21, hf⟩ := grd_e hf
  refine v_getR C 8 0 hb21 rfl nin_8 (ns_kd_lt hk_a0 (by decide)) hk_a0 (by decide) (by decide) rfl 12 tw_287 rfl 8 rfl (by decide +kernel) ?_
  obtain ⟨r23, σ22, hcr23, hf⟩ := cl2_e hf
  refine v_cVN C 7 rfl (ns_kd_lt hk_b20 (by decide)) hk_b20 (by decide) [.ref (G.1 + b21)] [] (c_World_takeFrom G l σ b20 b21 hcr23) 192 1 tw_514 tw_511 tw_513 ts_17 tw_2 hd_World_takeFrom rfl ⟨(Nat.le_of_ble_eq_true rfl), (Nat.le_of_ble_eq_true rfl)⟩ ⟨(Nat.le_of_ble_eq_true rfl), (Nat.le_of_ble_eq_true rfl)⟩ (Nat.le_of_ble_eq_true rfl) rfl 11 rfl (by decide +kernel) [] rfl ?_
  refine v_aload_n C 0 0 rfl 12 rfl (by decide +kernel) ?_
  obtain ⟨b24, hb24, hf⟩ := drf_e hf
  obtain ⟨hk_b24, hf⟩ := grd_e hf
  refine v_getR C 8 4 hb24 rfl nin_8 (ns_kd_lt hk_a0 (by decide)) hk_a0 (by decide) (by decide) rfl 31 tw_291 rfl 15 rfl (by decide +kernel) ?_
  refine v_aload_n C 0 0 rfl 16 rfl (by decide +kernel) ?_
  obtain ⟨b25, hb25, hf⟩ := drf_e hf
  obtain ⟨hk_b25, hf⟩ := grd_e hf
  refine v_getR C 8 2 hb25 rfl nin_8 (ns_kd_lt hk_a0 (by decide)) hk_a0 (by decide) (by decide) rfl 19 tw_289 rfl 19 rfl (by decide +kernel) ?_
  obtain ⟨r27, σ26, hcr27, hf⟩ := cl2_e hf
  refine v_cVN C 5 rfl (ns_kd_lt hk_b24 (by decide)) hk_b24 (by decide) [.ref (G.1 + b25)] [] (c_Tape_readInto G l σ22 b24 b25 hcr27) 196 1 tw_526 tw_523 tw_525 ts_20 tw_5 hd_Tape_readInto rfl ⟨(Nat.le_of_ble_eq_true rfl), (Nat.le_of_ble_eq_true rfl)⟩ ⟨(Nat.le_of_ble_eq_true rfl), (Nat.le_of_ble_eq_true rfl)⟩ (Nat.le_of_ble_eq_true rfl) rfl 22 rfl (by decide +kernel) [.int r27] rfl ?_
  refine v_istore_n C 1 [(1, .int r27), (0, .ref (G.1 + a0))] (by decide) rfl 23 rfl (by decide +kernel) ?_
  refine v_aload_n C 0 1 rfl 24 rfl (by decide +kernel) ?_
  obtain ⟨b28, hb28, hf⟩ := drf_e hf
  obtain ⟨hk_b28, hf⟩ := grd_e hf
  refine v_getR C 8 4 hb28 rfl nin_8 (ns_kd_lt hk_a0 (by decide)) hk_a0 (by decide) (by decide) rfl 31 tw_291 rfl 27 rfl (by decide +kernel) ?_
  refine v_iconst C (0) (0) (by decide) 28 rfl (by decide +kernel) ?_
  obtain ⟨σ29, hσ29, hf⟩ := bnd_e hf
  refine v_putIN C 5 1 hσ29 rfl nin_5 ny_5 nty_5 nnm_5 (ns_kd_lt hk_b28 (by decide)) hk_b28 (by decide) (by decide) rfl rfl rfl rfl 191 tw_165 rfl 31 rfl (by decide +kernel) ?_
  refine v_aload_n C 0 1 rfl 32 rfl (by decide +kernel) ?_
  obtain ⟨b30, hb30, hf⟩ := drf_e hf
  obtain ⟨hk_b30, hf⟩ := grd_e hf
  refine v_getR C 8 4 hb30 rfl nin_8 (ns_kd_lt hk_a0 (by decide)) hk_a0 (by decide) (by decide) rfl 31 tw_291 rfl 35 rfl (by decide +kernel) ?_
  refine v_getIN C 5 2 rfl nin_5 (ns_kd_lt hk_b30 (by decide)) hk_b30 (by decide) (by decide) rfl 200 tw_167 rfl 38 rfl (by decide +kernel) ?_
  refine v_iconst C (-1) (-1) (by decide) 39 rfl (by decide +kernel) ?_
  refine v_icmp_eq C 60 42 rfl (by decide +kernel) (fun h31 => ?_) (fun h31 => ?_)
  · have hf := ite2_t hf h31
    refine v_aload_n C 0 1 rfl 61 rfl (by decide +kernel) ?_
    obtain ⟨b32, hb32, hf⟩ := drf_e hf
    obtain ⟨hk_b32, hf⟩ := grd_e hf
    refine v_getR C 8 0 hb32 rfl nin_8 (ns_kd_lt hk_a0 (by decide)) hk_a0 (by decide) (by decide) rfl 12 tw_287 rfl 64 rfl (by decide +kernel) ?_
    refine v_aload_n C 0 1 rfl 65 rfl (by decide +kernel) ?_
    obtain ⟨b33, hb33, hf⟩ := drf_e hf
    obtain ⟨hk_b33, hf⟩ := grd_e hf
    refine v_getR C 8 2 hb33 rfl nin_8 (ns_kd_lt hk_a0 (by decide)) hk_a0 (by decide) (by decide) rfl 19 tw_289 rfl 68 rfl (by decide +kernel) ?_
    obtain ⟨r35, σ34, hcr35, hf⟩ := cl2_e hf
    refine v_cVN C 7 rfl (ns_kd_lt hk_b32 (by decide)) hk_b32 (by decide) [.ref (G.1 + b33)] [] (c_World_takeFrom G l σ29 b32 b33 hcr35) 192 1 tw_514 tw_511 tw_513 ts_17 tw_2 hd_World_takeFrom rfl ⟨(Nat.le_of_ble_eq_true rfl), (Nat.le_of_ble_eq_true rfl)⟩ ⟨(Nat.le_of_ble_eq_true rfl), (Nat.le_of_ble_eq_true rfl)⟩ (Nat.le_of_ble_eq_true rfl) rfl 71 rfl (by decide +kernel) [] rfl ?_
    refine v_iload_n C 1 0 rfl 72 rfl (by decide +kernel) ?_
    obtain ⟨rfl, rfl⟩ := ret_e hf
    exact v_iret C hr (by decide +kernel)
  · have hf := ite2_f hf h31
    refine v_aload_n C 0 1 rfl 43 rfl (by decide +kernel) ?_
    refine v_bipush C (-2) (-2) (by decide) 45 rfl (by decide +kernel) ?_
    obtain ⟨r37, σ36, hcr37, hf⟩ := cl2_e hf
    refine v_cV C 8 rfl (ns_kd_lt hk_a0 (by decide)) hk_a0 (by decide) [.int (-2 : Int32)] [] (c_N_refuse G l σ29 a0 (-2 : Int32) hcr37) 79 1 tw_338 tw_335 tw_337 ts_1 tw_1 hd_N_refuse rfl ⟨(Nat.le_of_ble_eq_true rfl), (Nat.le_of_ble_eq_true rfl)⟩ ⟨(Nat.le_of_ble_eq_true rfl), (Nat.le_of_ble_eq_true rfl)⟩ (Nat.le_of_ble_eq_true rfl) rfl 48 rfl (by decide +kernel) [.int r37] rfl ?_
    refine v_pop C rfl 49 rfl (by decide +kernel) ?_
    refine v_bipush C (-20) (-20) (by decide) 51 rfl (by decide +kernel) ?_
    refine v_aload_n C 0 1 rfl 52 rfl (by decide +kernel) ?_
    obtain ⟨b38, hb38, hf⟩ := drf_e hf
    obtain ⟨hk_b38, hf⟩ := grd_e hf
    refine v_getR C 8 4 hb38 rfl nin_8 (ns_kd_lt hk_a0 (by decide)) hk_a0 (by decide) (by decide) rfl 31 tw_291 rfl 55 rfl (by decide +kernel) ?_
    refine v_getIN C 5 2 rfl nin_5 (ns_kd_lt hk_b38 (by decide)) hk_b38 (by decide) (by decide) rfl 200 tw_167 rfl 58 rfl (by decide +kernel) ?_
    refine v_isub C 59 rfl (by decide +kernel) ?_
    obtain ⟨rfl, rfl⟩ := ret_e hf
    exact v_iret C hr (by decide +kernel)
theorem hd_N_pass : (⟨"NinthStep", "pass", "()I"⟩ : MethodName).cls = "NinthStep" ∧ (⟨"NinthStep", "pass", "()I"⟩ : MethodName).cls ≠ "java/lang/invoke/MethodHandle" ∧ (⟨"NinthStep", "pass", "()I"⟩ : MethodName).cls ≠ "java/lang/invoke/VarHandle" ∧ (parseMethodDescriptor (⟨"NinthStep", "pass", "()I"⟩ : MethodName).desc).map (fun d => d.parameters.length) = some 0 := by decide +kernel
def g_N_muleOf (σ : ns_St) (a0 : Nat) (x1 : Int32) (x2 : Int32) : Option (Int32 × ns_St) := grd (ns_kd a0 = 8) <| drf (σ.2.2 a0 0) fun b15 => grd (ns_kd b15 = 7) <| cl2 (g_World_muleAt σ b15 x1) fun r17 σ16 => onul r17 (cl2 (g_N_refuse σ16 a0 (-2 : Int32)) fun r20 σ19 => some (r20, σ19)) (fun b18 => grd (ns_kd b18 = 2) <| ite2 (x2 = 0) (some ((σ16.1 b18 0), σ16)) (ite2 (x2 = 1) (some ((σ16.1 b18 1), σ16)) (ite2 (x2 = 2) (some ((σ16.1 b18 2), σ16)) (ite2 (x2 = 3) (some ((σ16.1 b18 3), σ16)) (ite2 (x2 = 4) (some ((σ16.1 b18 4), σ16)) (ite2 (x2 = 5) (some ((σ16.1 b18 5), σ16)) (cl2 (g_N_refuse σ16 a0 (-2 : Int32)) fun r28 σ27 => some (r28, σ27))))))))
theorem c_N_muleOf (G : ns_G) (l : Launch) (σ : ns_St) (a0 : Nat) (x1 : Int32) (x2 : Int32) {r : Int32} {σ' : ns_St} (hf : g_N_muleOf σ a0 x1 x2 = some (r, σ')) : ns_ok G l ⟨"NinthStep", "muleOf", "(II)I"⟩ prog_1_method_18_code 4 (some .int) 2 44 0 0 [.ref (G.1 + a0), .int x1, .int x2] ns_N σ (some (.int r)) ns_N σ' := by
  refine v_open (by decide) (Nat.le_of_ble_eq_true rfl) rfl ?_
  intro p e s m below meth c C hr _
  have C : ns_Cx G p s m _ meth c prog_1_method_18_code "NinthStep" 4 := C
  unfold g_N_muleOf at hf
  obtain ⟨hk_a0, hf⟩ := grd_e hf
  refine v_aload_n C 0 0 rfl 1 rfl (by decide +kernel) ?_
  obtain ⟨b15, hb15, hf⟩ := drf_e hf
  obtain ⟨hk_b15, hf⟩ := grd_e hf
  refine v_getR C 8 0 hb15 rfl nin_8 (ns_kd_lt hk_a0 (by decide)) hk_a0 (by decide) (by decide) rfl 12 tw_287 rfl 4 rfl (by decide +kernel) ?_
  refine v_iload_n C 1 1 rfl 5 rfl (by decide +kernel) ?_
  obtain ⟨r17, σ16, hcr17, hf⟩ := cl2_e hf
  rcases r17 with _ | b18
  · have hf := onul_n hf
    refine v_cVN C 7 rfl (ns_kd_lt hk_b15 (by decide)) hk_b15 (by decide) [.int x1] [] (c_World_muleAt G l σ b15 x1 hcr17) 120 1 tw_390 tw_387 tw_389 ts_7 tw_2 hd_World_muleAt rfl ⟨(Nat.le_of_ble_eq_true rfl), (Nat.le_of_ble_eq_true rfl)⟩ ⟨(Nat.le_of_ble_eq_true rfl), (Nat.le_of_ble_eq_true rfl)⟩ (Nat.le_of_ble_eq_true rfl) rfl 8 rfl (by decide +kernel) [.null] rfl ?_
    refine v_astore_nN C 3 [(3, .null), (0, .ref (G.1 + a0)), (1, .int x1), (2, .int x2)] (by decide) rfl 9 rfl (by decide +kernel) ?_
    refine v_aload_nN C 3 0 rfl 10 rfl (by decide +kernel) ?_
    refine v_ifnonnullN C 20 13 rfl (by decide +kernel) ?_
    refine v_aload_n C 0 1 rfl 14 rfl (by decide +kernel) ?_
    refine v_bipush C (-2) (-2) (by decide) 16 rfl (by decide +kernel) ?_
    obtain ⟨r20, σ19, hcr20, hf⟩ := cl2_e hf
    refine v_cV C 8 rfl (ns_kd_lt hk_a0 (by decide)) hk_a0 (by decide) [.int (-2 : Int32)] [] (c_N_refuse G l σ16 a0 (-2 : Int32) hcr20) 79 1 tw_338 tw_335 tw_337 ts_1 tw_1 hd_N_refuse rfl ⟨(Nat.le_of_ble_eq_true rfl), (Nat.le_of_ble_eq_true rfl)⟩ ⟨(Nat.le_of_ble_eq_true rfl), (Nat.le_of_ble_eq_true rfl)⟩ (Nat.le_of_ble_eq_true rfl) rfl 19 rfl (by decide +kernel) [.int r20] rfl ?_
    obtain ⟨rfl, rfl⟩ := ret_e hf
    exact v_iret C hr (by decide +kernel)
  · have hf := onul_s hf
    obtain ⟨hk_b18, hf⟩ := grd_e hf
    refine v_cVN C 7 rfl (ns_kd_lt hk_b15 (by decide)) hk_b15 (by decide) [.int x1] [] (c_World_muleAt G l σ b15 x1 hcr17) 120 1 tw_390 tw_387 tw_389 ts_7 tw_2 hd_World_muleAt rfl ⟨(Nat.le_of_ble_eq_true rfl), (Nat.le_of_ble_eq_true rfl)⟩ ⟨(Nat.le_of_ble_eq_true rfl), (Nat.le_of_ble_eq_true rfl)⟩ (Nat.le_of_ble_eq_true rfl) rfl 8 rfl (by decide +kernel) [.ref (G.1 + b18)] rfl ?_
    refine v_astore_n C 3 [(3, .ref (G.1 + b18)), (0, .ref (G.1 + a0)), (1, .int x1), (2, .int x2)] (by decide) rfl 9 rfl (by decide +kernel) ?_
    refine v_aload_n C 3 0 rfl 10 rfl (by decide +kernel) ?_
    refine v_ifnonnull C 20 (by decide +kernel) ?_
    refine v_iload_n C 2 3 rfl 21 rfl (by decide +kernel) ?_
    by_cases h21 : x2 = 0
    · have hf := ite2_t hf h21
      refine v_tswI C (69) (0) (5) #[(39), (44), (49), (54), (59), (64)] 39 60 (0) h21 (by decide) (by decide) (39) (by decide) (by decide) (by decide +kernel) ?_
      refine v_aload_n C 3 0 rfl 61 rfl (by decide +kernel) ?_
      refine v_getIN C 2 0 rfl nin_2 (ns_kd_lt hk_b18 (by decide)) hk_b18 (by decide) (by decide) rfl 124 tw_83 rfl 64 rfl (by decide +kernel) ?_
      obtain ⟨rfl, rfl⟩ := ret_e hf
      exact v_iret C hr (by decide +kernel)
    · have hf := ite2_f hf h21
      by_cases h22 : x2 = 1
      · have hf := ite2_t hf h22
        refine v_tswI C (69) (0) (5) #[(39), (44), (49), (54), (59), (64)] 39 65 (1) h22 (by decide) (by decide) (44) (by decide) (by decide) (by decide +kernel) ?_
        refine v_aload_n C 3 0 rfl 66 rfl (by decide +kernel) ?_
        refine v_getIN C 2 1 rfl nin_2 (ns_kd_lt hk_b18 (by decide)) hk_b18 (by decide) (by decide) rfl 176 tw_86 rfl 69 rfl (by decide +kernel) ?_
        obtain ⟨rfl, rfl⟩ := ret_e hf
        exact v_iret C hr (by decide +kernel)
      · have hf := ite2_f hf h22
        by_cases h23 : x2 = 2
        · have hf := ite2_t hf h23
          refine v_tswI C (69) (0) (5) #[(39), (44), (49), (54), (59), (64)] 39 70 (2) h23 (by decide) (by decide) (49) (by decide) (by decide) (by decide +kernel) ?_
          refine v_aload_n C 3 0 rfl 71 rfl (by decide +kernel) ?_
          refine v_getIN C 2 2 rfl nin_2 (ns_kd_lt hk_b18 (by decide)) hk_b18 (by decide) (by decide) rfl 179 tw_93 rfl 74 rfl (by decide +kernel) ?_
          obtain ⟨rfl, rfl⟩ := ret_e hf
          exact v_iret C hr (by decide +kernel)
        · have hf := ite2_f hf h23
          by_cases h24 : x2 = 3
          · have hf := ite2_t hf h24
            refine v_tswI C (69) (0) (5) #[(39), (44), (49), (54), (59), (64)] 39 75 (3) h24 (by decide) (by decide) (54) (by decide) (by decide) (by decide +kernel) ?_
            refine v_aload_n C 3 0 rfl 76 rfl (by decide +kernel) ?_
            refine v_getIN C 2 3 rfl nin_2 (ns_kd_lt hk_b18 (by decide)) hk_b18 (by decide) (by decide) rfl 182 tw_97 rfl 79 rfl (by decide +kernel) ?_
            obtain ⟨rfl, rfl⟩ := ret_e hf
            exact v_iret C hr (by decide +kernel)
          · have hf := ite2_f hf h24
            by_cases h25 : x2 = 4
            · have hf := ite2_t hf h25
              refine v_tswI C (69) (0) (5) #[(39), (44), (49), (54), (59), (64)] 39 80 (4) h25 (by decide) (by decide) (59) (by decide) (by decide) (by decide +kernel) ?_
              refine v_aload_n C 3 0 rfl 81 rfl (by decide +kernel) ?_
              refine v_getIN C 2 4 rfl nin_2 (ns_kd_lt hk_b18 (by decide)) hk_b18 (by decide) (by decide) rfl 203 tw_100 rfl 84 rfl (by decide +kernel) ?_
              obtain ⟨rfl, rfl⟩ := ret_e hf
              exact v_iret C hr (by decide +kernel)
            · have hf := ite2_f hf h25
              by_cases h26 : x2 = 5
              · have hf := ite2_t hf h26
                refine v_tswI C (69) (0) (5) #[(39), (44), (49), (54), (59), (64)] 39 85 (5) h26 (by decide) (by decide) (64) (by decide) (by decide) (by decide +kernel) ?_
                refine v_aload_n C 3 0 rfl 86 rfl (by decide +kernel) ?_
                refine v_getIN C 2 5 rfl nin_2 (ns_kd_lt hk_b18 (by decide)) hk_b18 (by decide) (by decide) rfl 206 tw_102 rfl 89 rfl (by decide +kernel) ?_
                obtain ⟨rfl, rfl⟩ := ret_e hf
                exact v_iret C hr (by decide +kernel)
              · have hf := ite2_f hf h26
                refine v_tswO C (69) (0) (5) #[(39), (44), (49), (54), (59), (64)] 39 90 (ns_out x2 (0) (5) (fun k h1 h2 => by
                  have h3 : k = 0 ∨ k = 1 ∨ k = 2 ∨ k = 3 ∨ k = 4 ∨ k = 5 := by omega
                  rcases h3 with rfl | rfl | rfl | rfl | rfl | rfl
                  · exact h21
                  · exact h22
                  · exact h23
                  · exact h24
                  · exact h25
                  · exact h26)) (by decide) (by decide +kernel) ?_
                refine v_aload_n C 0 1 rfl 91 rfl (by decide +kernel) ?_
                refine v_bipush C (-2) (-2) (by decide) 93 rfl (by decide +kernel) ?_
                obtain ⟨r28, σ27, hcr28, hf⟩ := cl2_e hf
                refine v_cV C 8 rfl (ns_kd_lt hk_a0 (by decide)) hk_a0 (by decide) [.int (-2 : Int32)] [] (c_N_refuse G l σ16 a0 (-2 : Int32) hcr28) 79 1 tw_338 tw_335 tw_337 ts_1 tw_1 hd_N_refuse rfl ⟨(Nat.le_of_ble_eq_true rfl), (Nat.le_of_ble_eq_true rfl)⟩ ⟨(Nat.le_of_ble_eq_true rfl), (Nat.le_of_ble_eq_true rfl)⟩ (Nat.le_of_ble_eq_true rfl) rfl 96 rfl (by decide +kernel) [.int r28] rfl ?_
                obtain ⟨rfl, rfl⟩ := ret_e hf
                exact v_iret C hr (by decide +kernel)
theorem hd_N_muleOf : (⟨"NinthStep", "muleOf", "(II)I"⟩ : MethodName).cls = "NinthStep" ∧ (⟨"NinthStep", "muleOf", "(II)I"⟩ : MethodName).cls ≠ "java/lang/invoke/MethodHandle" ∧ (⟨"NinthStep", "muleOf", "(II)I"⟩ : MethodName).cls ≠ "java/lang/invoke/VarHandle" ∧ (parseMethodDescriptor (⟨"NinthStep", "muleOf", "(II)I"⟩ : MethodName).desc).map (fun d => d.parameters.length) = some 2 := by decide +kernel
def g_N_placeOf_19  : Nat → ns_St → Nat → Int32 → Int32 → Int32 → Option (Int32 × ns_St)
  | 0, _, _, _, _, _ => none
  | f + 1, σ, a0, x1, x2, x3 => ite2 ((4 : Int32) ≤ x3) (some (x2, σ)) (drf (σ.2.2 a0 0) fun b18 => grd (ns_kd b18 = 7) <| drf (σ.2.2 b18 0) fun b19 => grd (ns_kd b19 = 1) <| cl2 (g_Ground_allOf σ b19 x3) fun r21 σ20 => cl2 (g_N_isIn σ20 r21 x1) fun r23 σ22 => ite2 (r23 = 0) (bnd (x3 + 1) fun z25 => (g_N_placeOf_19 f) σ22 a0 x1 x2 z25) (bnd (x2 ||| ((1 : Int32) <<< (x3 &&& 31))) fun z26 => bnd (x3 + 1) fun z27 => (g_N_placeOf_19 f) σ22 a0 x1 z26 z27))
def g_N_placeOf (σ : ns_St) (a0 : Nat) (x1 : Int32) : Option (Int32 × ns_St) := grd (ns_kd a0 = 8) <| cl2 (g_N_isPlace σ a0 x1) fun r29 σ28 => ite2 (r29 = 0) (cl2 (g_N_refuse σ28 a0 (-2 : Int32)) fun r32 σ31 => some (r32, σ31)) (g_N_placeOf_19 ns_F σ28 a0 x1 (0 : Int32) (0 : Int32))
theorem t_N_placeOf_19 (G : ns_G) (l : Launch) {p : Program} {e : Env} {s : State} {m : MethodId} {args : Array Value} {below : List Frame} {meth : Method} {c : Code} (C : ns_Cx G p s m args meth c prog_1_method_19_code "NinthStep" 4) (hr : meth.sig.returnType = (some .int)) {r : Int32} {σ' : ns_St}  : ∀ (f : Nat) (σ : ns_St) (a0 : Nat) (x1 : Int32) (x2 : Int32) (x3 : Int32) (hk_a0 : ns_kd a0 = 8), g_N_placeOf_19 f σ a0 x1 x2 x3 = some (r, σ') → VV G p l e { frames := 2, cells := 0, slots := 0, locals := 44 } s m args below meth c 4 0 0 (MQ below (ns_Qc G (some (.int r)) ns_N σ') args s 0 0 (ns_A G)) ns_N σ 19 [(0, .ref (G.1 + a0)), (1, .int x1), (2, .int x2), (3, .int x3)] [] := by
  intro f
  induction f with
  | zero =>
    intro σ a0 x1 x2 x3 hk_a0 hf
    cases hf
  | succ f ih =>
    intro σ a0 x1 x2 x3 hk_a0 hf
    rw [g_N_placeOf_19] at hf
    refine v_iload_n C 3 3 rfl 20 rfl (by decide +kernel) ?_
    refine v_iconst C (4) (4) (by decide) 21 rfl (by decide +kernel) ?_
    refine v_icmp_ge C 54 24 rfl (by decide +kernel) (fun h17 => ?_) (fun h17 => ?_)
    · have hf := ite2_t hf h17
      refine v_iload_n C 2 2 rfl 55 rfl (by decide +kernel) ?_
      obtain ⟨rfl, rfl⟩ := ret_e hf
      exact v_iret C hr (by decide +kernel)
    · have hf := ite2_f hf h17
      refine v_aload_n C 0 0 rfl 25 rfl (by decide +kernel) ?_
      obtain ⟨b18, hb18, hf⟩ := drf_e hf
      obtain ⟨hk_b18, hf⟩ := grd_e hf
      refine v_getR C 8 0 hb18 rfl nin_8 (ns_kd_lt hk_a0 (by decide)) hk_a0 (by decide) (by decide) rfl 12 tw_287 rfl 28 rfl (by decide +kernel) ?_
      obtain ⟨b19, hb19, hf⟩ := drf_e hf
      obtain ⟨hk_b19, hf⟩ := grd_e hf
      refine v_getRN C 7 0 hb19 rfl nin_7 (ns_kd_lt hk_b18 (by decide)) hk_b18 (by decide) (by decide) rfl 138 tw_128 rfl 31 rfl (by decide +kernel) ?_
      refine v_iload_n C 3 3 rfl 32 rfl (by decide +kernel) ?_
      obtain ⟨r21, σ20, hcr21, hf⟩ := cl2_e hf
      refine v_cVN C 1 rfl (ns_kd_lt hk_b19 (by decide)) hk_b19 (by decide) [.int x3] [] (c_Ground_allOf G l σ b19 x3 hcr21) 157 1 tw_459 tw_456 tw_458 ts_12 tw_3 hd_Ground_allOf rfl ⟨(Nat.le_of_ble_eq_true rfl), (Nat.le_of_ble_eq_true rfl)⟩ ⟨(Nat.le_of_ble_eq_true rfl), (Nat.le_of_ble_eq_true rfl)⟩ (Nat.le_of_ble_eq_true rfl) rfl 35 rfl (by decide +kernel) [.long r21] rfl ?_
      refine v_iload_n C 1 1 rfl 36 rfl (by decide +kernel) ?_
      obtain ⟨r23, σ22, hcr23, hf⟩ := cl2_e hf
      refine v_cS C [.long r21, .int x1] [] (c_N_isIn G l σ20 r21 x1 hcr23) 160 2 tw_455 tw_460 tw_454 tw_1 hd_N_isIn rfl ⟨(Nat.le_of_ble_eq_true rfl), (Nat.le_of_ble_eq_true rfl)⟩ ⟨(Nat.le_of_ble_eq_true rfl), (Nat.le_of_ble_eq_true rfl)⟩ (Nat.le_of_ble_eq_true rfl) rfl 39 rfl (by decide +kernel) [.int r23] rfl ?_
      refine v_if_eq C 48 42 rfl (by decide +kernel) (fun h24 => ?_) (fun h24 => ?_)
      · have hf := ite2_t hf h24
        obtain ⟨z25, hz25, hf⟩ := bnd_e hf
        refine v_iinc C 3 (1) 3 z25 rfl (by rw [hz25]; rfl) [(3, .int z25), (0, .ref (G.1 + a0)), (1, .int x1), (2, .int x2)] (by decide) rfl 51 rfl (by decide +kernel) ?_
        refine v_goto C 19 (by decide +kernel) ?_
        refine v_sub [1, 2, 3, 0] rfl ?_
        exact ih σ22 a0 x1 x2 z25 hk_a0 hf
      · have hf := ite2_f hf h24
        refine v_iload_n C 2 2 rfl 43 rfl (by decide +kernel) ?_
        refine v_iconst C (1) (1) (by decide) 44 rfl (by decide +kernel) ?_
        refine v_iload_n C 3 3 rfl 45 rfl (by decide +kernel) ?_
        refine v_ishl C 46 rfl (by decide +kernel) ?_
        refine v_ior C 47 rfl (by decide +kernel) ?_
        obtain ⟨z26, hz26, hf⟩ := bnd_e hf
        refine v_nmI hz26 ?_
        refine v_istore_n C 2 [(2, .int z26), (0, .ref (G.1 + a0)), (1, .int x1), (3, .int x3)] (by decide) rfl 48 rfl (by decide +kernel) ?_
        obtain ⟨z27, hz27, hf⟩ := bnd_e hf
        refine v_iinc C 3 (1) 3 z27 rfl (by rw [hz27]; rfl) [(3, .int z27), (2, .int z26), (0, .ref (G.1 + a0)), (1, .int x1)] (by decide) rfl 51 rfl (by decide +kernel) ?_
        refine v_goto C 19 (by decide +kernel) ?_
        refine v_sub [2, 3, 1, 0] rfl ?_
        exact ih σ22 a0 x1 z26 z27 hk_a0 hf
theorem c_N_placeOf (G : ns_G) (l : Launch) (σ : ns_St) (a0 : Nat) (x1 : Int32) {r : Int32} {σ' : ns_St} (hf : g_N_placeOf σ a0 x1 = some (r, σ')) : ns_ok G l ⟨"NinthStep", "placeOf", "(I)I"⟩ prog_1_method_19_code 4 (some .int) 2 44 0 0 [.ref (G.1 + a0), .int x1] ns_N σ (some (.int r)) ns_N σ' := by
  refine v_open (by decide) (Nat.le_of_ble_eq_true rfl) rfl ?_
  intro p e s m below meth c C hr _
  have C : ns_Cx G p s m _ meth c prog_1_method_19_code "NinthStep" 4 := C
  unfold g_N_placeOf at hf
  obtain ⟨hk_a0, hf⟩ := grd_e hf
  refine v_aload_n C 0 0 rfl 1 rfl (by decide +kernel) ?_
  refine v_iload_n C 1 1 rfl 2 rfl (by decide +kernel) ?_
  obtain ⟨r29, σ28, hcr29, hf⟩ := cl2_e hf
  refine v_cV C 8 rfl (ns_kd_lt hk_a0 (by decide)) hk_a0 (by decide) [.int x1] [] (c_N_isPlace G l σ a0 x1 hcr29) 150 1 tw_448 tw_445 tw_447 ts_10 tw_1 hd_N_isPlace rfl ⟨(Nat.le_of_ble_eq_true rfl), (Nat.le_of_ble_eq_true rfl)⟩ ⟨(Nat.le_of_ble_eq_true rfl), (Nat.le_of_ble_eq_true rfl)⟩ (Nat.le_of_ble_eq_true rfl) rfl 5 rfl (by decide +kernel) [.int r29] rfl ?_
  refine v_if_ne C 15 8 rfl (by decide +kernel) (fun h30 => ?_) (fun h30 => ?_)
  · have hf := ite2_f hf h30
    refine v_iconst C (0) (0) (by decide) 16 rfl (by decide +kernel) ?_
    refine v_istore_n C 2 [(2, .int (0 : Int32)), (0, .ref (G.1 + a0)), (1, .int x1)] (by decide) rfl 17 rfl (by decide +kernel) ?_
    refine v_iconst C (0) (0) (by decide) 18 rfl (by decide +kernel) ?_
    refine v_istore_n C 3 [(3, .int (0 : Int32)), (2, .int (0 : Int32)), (0, .ref (G.1 + a0)), (1, .int x1)] (by decide) rfl 19 rfl (by decide +kernel) ?_
    refine v_sub [2, 3, 1, 0] rfl ?_
    exact t_N_placeOf_19 G l C hr  ns_F σ28 a0 x1 (0 : Int32) (0 : Int32) hk_a0 hf
  · have hf := ite2_t hf h30
    refine v_aload_n C 0 0 rfl 9 rfl (by decide +kernel) ?_
    refine v_bipush C (-2) (-2) (by decide) 11 rfl (by decide +kernel) ?_
    obtain ⟨r32, σ31, hcr32, hf⟩ := cl2_e hf
    refine v_cV C 8 rfl (ns_kd_lt hk_a0 (by decide)) hk_a0 (by decide) [.int (-2 : Int32)] [] (c_N_refuse G l σ28 a0 (-2 : Int32) hcr32) 79 1 tw_338 tw_335 tw_337 ts_1 tw_1 hd_N_refuse rfl ⟨(Nat.le_of_ble_eq_true rfl), (Nat.le_of_ble_eq_true rfl)⟩ ⟨(Nat.le_of_ble_eq_true rfl), (Nat.le_of_ble_eq_true rfl)⟩ (Nat.le_of_ble_eq_true rfl) rfl 14 rfl (by decide +kernel) [.int r32] rfl ?_
    obtain ⟨rfl, rfl⟩ := ret_e hf
    exact v_iret C hr (by decide +kernel)
theorem hd_N_placeOf : (⟨"NinthStep", "placeOf", "(I)I"⟩ : MethodName).cls = "NinthStep" ∧ (⟨"NinthStep", "placeOf", "(I)I"⟩ : MethodName).cls ≠ "java/lang/invoke/MethodHandle" ∧ (⟨"NinthStep", "placeOf", "(I)I"⟩ : MethodName).cls ≠ "java/lang/invoke/VarHandle" ∧ (parseMethodDescriptor (⟨"NinthStep", "placeOf", "(I)I"⟩ : MethodName).desc).map (fun d => d.parameters.length) = some 1 := by decide +kernel
def g_Mule_standAt (σ : ns_St) (a0 : Nat) (x1 : Int32) (x2 : Int32) (x3 : Int32) : Option (Unit × ns_St) := grd (ns_kd a0 = 2) <| bnd (ns_pI σ a0 2 x1) fun σ4 => bnd (ns_pI σ4 a0 3 x2) fun σ5 => bnd (ns_pI σ5 a0 1 x3) fun σ6 => some ((), σ6)
theorem c_Mule_standAt (G : ns_G) (l : Launch) (σ : ns_St) (a0 : Nat) (x1 : Int32) (x2 : Int32) (x3 : Int32) {r : Unit} {σ' : ns_St} (hf : g_Mule_standAt σ a0 x1 x2 x3 = some (r, σ')) : ns_ok G l ⟨"NinthStep$Mule", "standAt", "(III)V"⟩ prog_4_method_5_code 4 none 0 0 0 0 [.ref (G.1 + a0), .int x1, .int x2, .int x3] ns_N σ none ns_N σ' := by
  refine v_open (by decide) (Nat.le_of_ble_eq_true rfl) rfl ?_
  intro p e s m below meth c C hr _
  have C : ns_Cx G p s m _ meth c prog_4_method_5_code "NinthStep$Mule" 4 := C
  unfold g_Mule_standAt at hf
  obtain ⟨hk_a0, hf⟩ := grd_e hf
  refine v_aload_n C 0 0 rfl 1 rfl (by decide +kernel) ?_
  refine v_iload_n C 1 1 rfl 2 rfl (by decide +kernel) ?_
  obtain ⟨σ4, hσ4, hf⟩ := bnd_e hf
  refine v_putI C 2 2 hσ4 rfl nin_2 ny_2 nty_2 nnm_2 (ns_kd_lt hk_a0 (by decide)) hk_a0 (by decide) (by decide) rfl rfl rfl rfl 21 tw_88 rfl 5 rfl (by decide +kernel) ?_
  refine v_aload_n C 0 0 rfl 6 rfl (by decide +kernel) ?_
  refine v_iload_n C 2 2 rfl 7 rfl (by decide +kernel) ?_
  obtain ⟨σ5, hσ5, hf⟩ := bnd_e hf
  refine v_putI C 2 3 hσ5 rfl nin_2 ny_2 nty_2 nnm_2 (ns_kd_lt hk_a0 (by decide)) hk_a0 (by decide) (by decide) rfl rfl rfl rfl 24 tw_94 rfl 10 rfl (by decide +kernel) ?_
  refine v_aload_n C 0 0 rfl 11 rfl (by decide +kernel) ?_
  refine v_iload_n C 3 3 rfl 12 rfl (by decide +kernel) ?_
  obtain ⟨σ6, hσ6, hf⟩ := bnd_e hf
  refine v_putI C 2 1 hσ6 rfl nin_2 ny_2 nty_2 nnm_2 (ns_kd_lt hk_a0 (by decide)) hk_a0 (by decide) (by decide) rfl rfl rfl rfl 15 tw_84 rfl 15 rfl (by decide +kernel) ?_
  obtain ⟨rfl, rfl⟩ := ret_e hf
  exact v_vret C hr (by decide +kernel)
theorem hd_Mule_standAt : (⟨"NinthStep$Mule", "standAt", "(III)V"⟩ : MethodName).cls = "NinthStep$Mule" ∧ (⟨"NinthStep$Mule", "standAt", "(III)V"⟩ : MethodName).cls ≠ "java/lang/invoke/MethodHandle" ∧ (⟨"NinthStep$Mule", "standAt", "(III)V"⟩ : MethodName).cls ≠ "java/lang/invoke/VarHandle" ∧ (parseMethodDescriptor (⟨"NinthStep$Mule", "standAt", "(III)V"⟩ : MethodName).desc).map (fun d => d.parameters.length) = some 3 := by decide +kernel
def g_Mule_mayStop (σ : ns_St) (a0 : Nat) (a1 : Nat) : Option (Int32 × ns_St) := grd (ns_kd a0 = 2) <| grd (ns_kd a1 = 1) <| ite2 ((σ.1 a0 3) < (σ.1 a0 1)) (some ((0 : Int32), σ)) (ite2 ((σ.1 a0 0) = (3 : Int32)) (ite2 ((lg_cmp ((((σ.2.1 a1 3).toUInt64 >>> ((σ.1 a0 2).toInt64.toUInt64 &&& Int64.toUInt64 63)).toInt64) &&& (1 : Int64)) (0 : Int64)) = 0) (some ((1 : Int32), σ)) (some ((0 : Int32), σ))) (some ((1 : Int32), σ)))
theorem c_Mule_mayStop (G : ns_G) (l : Launch) (σ : ns_St) (a0 : Nat) (a1 : Nat) {r : Int32} {σ' : ns_St} (hf : g_Mule_mayStop σ a0 a1 = some (r, σ')) : ns_ok G l ⟨"NinthStep$Mule", "mayStop", "(LNinthStep$Ground;)Z"⟩ prog_4_method_8_code 2 (some .boolean) 0 0 0 0 [.ref (G.1 + a0), .ref (G.1 + a1)] ns_N σ (some (.int r)) ns_N σ' := by
  refine v_open (by decide) (Nat.le_of_ble_eq_true rfl) rfl ?_
  intro p e s m below meth c C hr _
  have C : ns_Cx G p s m _ meth c prog_4_method_8_code "NinthStep$Mule" 2 := C
  unfold g_Mule_mayStop at hf
  obtain ⟨hk_a0, hf⟩ := grd_e hf
  obtain ⟨hk_a1, hf⟩ := grd_e hf
  refine v_aload_n C 0 0 rfl 1 rfl (by decide +kernel) ?_
  refine v_getI C 2 3 rfl nin_2 (ns_kd_lt hk_a0 (by decide)) hk_a0 (by decide) (by decide) rfl 24 tw_94 rfl 4 rfl (by decide +kernel) ?_
  refine v_aload_n C 0 0 rfl 5 rfl (by decide +kernel) ?_
  refine v_getI C 2 1 rfl nin_2 (ns_kd_lt hk_a0 (by decide)) hk_a0 (by decide) (by decide) rfl 15 tw_84 rfl 8 rfl (by decide +kernel) ?_
  refine v_icmp_lt C 39 11 rfl (by decide +kernel) (fun h4 => ?_) (fun h4 => ?_)
  · have hf := ite2_t hf h4
    refine v_iconst C (0) (0) (by decide) 40 rfl (by decide +kernel) ?_
    obtain ⟨rfl, rfl⟩ := ret_e hf
    exact v_zret C hr rfl (by decide +kernel)
  · have hf := ite2_f hf h4
    refine v_aload_n C 0 0 rfl 12 rfl (by decide +kernel) ?_
    refine v_getI C 2 0 rfl nin_2 (ns_kd_lt hk_a0 (by decide)) hk_a0 (by decide) (by decide) rfl 9 tw_82 rfl 15 rfl (by decide +kernel) ?_
    refine v_iconst C (3) (3) (by decide) 16 rfl (by decide +kernel) ?_
    refine v_icmp_ne C 35 19 rfl (by decide +kernel) (fun h5 => ?_) (fun h5 => ?_)
    · have hf := ite2_f hf h5
      refine v_iconst C (1) (1) (by decide) 36 rfl (by decide +kernel) ?_
      refine v_goto C 40 (by decide +kernel) ?_
      obtain ⟨rfl, rfl⟩ := ret_e hf
      exact v_zret C hr rfl (by decide +kernel)
    · have hf := ite2_t hf h5
      refine v_aload_n C 1 1 rfl 20 rfl (by decide +kernel) ?_
      refine v_getJN C 1 3 rfl nin_1 (ns_kd_lt hk_a1 (by decide)) hk_a1 (by decide) (by decide) rfl 59 tw_58 rfl 23 rfl (by decide +kernel) ?_
      refine v_aload_n C 0 0 rfl 24 rfl (by decide +kernel) ?_
      refine v_getI C 2 2 rfl nin_2 (ns_kd_lt hk_a0 (by decide)) hk_a0 (by decide) (by decide) rfl 21 tw_88 rfl 27 rfl (by decide +kernel) ?_
      refine v_lushr C 28 rfl (by decide +kernel) ?_
      refine v_lconst C 1 (1) (by decide) 29 rfl (by decide +kernel) ?_
      refine v_land C 30 rfl (by decide +kernel) ?_
      refine v_lconst C 0 (0) (by decide) 31 rfl (by decide +kernel) ?_
      refine v_lcmp C 32 rfl (by decide +kernel) ?_
      refine v_if_ne C 39 35 rfl (by decide +kernel) (fun h6 => ?_) (fun h6 => ?_)
      · have hf := ite2_f hf h6
        refine v_iconst C (0) (0) (by decide) 40 rfl (by decide +kernel) ?_
        obtain ⟨rfl, rfl⟩ := ret_e hf
        exact v_zret C hr rfl (by decide +kernel)
      · have hf := ite2_t hf h6
        refine v_iconst C (1) (1) (by decide) 36 rfl (by decide +kernel) ?_
        refine v_goto C 40 (by decide +kernel) ?_
        obtain ⟨rfl, rfl⟩ := ret_e hf
        exact v_zret C hr rfl (by decide +kernel)
theorem hd_Mule_mayStop : (⟨"NinthStep$Mule", "mayStop", "(LNinthStep$Ground;)Z"⟩ : MethodName).cls = "NinthStep$Mule" ∧ (⟨"NinthStep$Mule", "mayStop", "(LNinthStep$Ground;)Z"⟩ : MethodName).cls ≠ "java/lang/invoke/MethodHandle" ∧ (⟨"NinthStep$Mule", "mayStop", "(LNinthStep$Ground;)Z"⟩ : MethodName).cls ≠ "java/lang/invoke/VarHandle" ∧ (parseMethodDescriptor (⟨"NinthStep$Mule", "mayStop", "(LNinthStep$Ground;)Z"⟩ : MethodName).desc).map (fun d => d.parameters.length) = some 1 := by decide +kernel
def g_Mule_makeStep_110  (σ : ns_St) (a0 : Nat) (x3 : Int32) (x4 : Int32) : Option (Int32 × ns_St) := ite2 (x3 = 0) (grd (x4 = 0 ∨ x4 = 1) <| some (x4, σ)) (ite2 ((σ.1 a0 0) = (4 : Int32)) (cl2 (g_Math_min σ (64 : Int32) ((2 : Int32) * (σ.1 a0 1))) fun r26 σ25 => bnd (ns_pI σ25 a0 1 r26) fun σ27 => grd (x4 = 0 ∨ x4 = 1) <| some (x4, σ27)) (grd (x4 = 0 ∨ x4 = 1) <| some (x4, σ)))
def g_Mule_makeStep_98  (σ : ns_St) (s0 : Int32) (a0 : Nat) (x3 : Int32) : Option (Int32 × ns_St) := ite2 (s0 = 0) (g_Mule_makeStep_110 σ a0 x3 s0) (bnd (ns_pI σ a0 3 (0 : Int32)) fun σ30 => g_Mule_makeStep_110 σ30 a0 x3 s0)
def g_Mule_makeStep_93  (σ : ns_St) (a0 : Nat) (x3 : Int32) : Option (Int32 × ns_St) := g_Mule_makeStep_98 σ (1 : Int32) a0 x3
def g_Mule_makeStep_97  (σ : ns_St) (a0 : Nat) (x3 : Int32) : Option (Int32 × ns_St) := g_Mule_makeStep_98 σ (0 : Int32) a0 x3
def g_Mule_makeStep_72  (σ : ns_St) (s0 : Int32) (a0 : Nat) (a1 : Nat) : Option (Int32 × ns_St) := cl2 (g_Mule_mayStop σ a0 a1) fun r32 σ31 => ite2 (r32 = 0) (ite2 (s0 = 0) (g_Mule_makeStep_97 σ31 a0 s0) (ite2 ((σ31.1 a0 0) = (5 : Int32)) (g_Mule_makeStep_93 σ31 a0 s0) (g_Mule_makeStep_97 σ31 a0 s0))) (g_Mule_makeStep_93 σ31 a0 s0)
def g_Mule_makeStep_51  (σ : ns_St) (a0 : Nat) (a1 : Nat) : Option (Int32 × ns_St) := ite2 ((lg_cmp ((((σ.2.1 a1 2).toUInt64 >>> ((σ.1 a0 2).toInt64.toUInt64 &&& Int64.toUInt64 63)).toInt64) &&& (1 : Int64)) (0 : Int64)) = 0) (g_Mule_makeStep_72 σ (0 : Int32) a0 a1) (g_Mule_makeStep_72 σ (1 : Int32) a0 a1)
def g_Mule_makeStep (σ : ns_St) (a0 : Nat) (a1 : Nat) (x2 : Int32) : Option (Int32 × ns_St) := grd (ns_kd a0 = 2) <| grd (ns_kd a1 = 1) <| bnd (ns_pI σ a0 2 ((σ.1 a0 2) + (1 : Int32))) fun σ37 => bnd (ns_pI σ37 a0 3 ((σ37.1 a0 3) + ((1 : Int32) + x2))) fun σ38 => ite2 ((lg_cmp ((((σ38.2.1 a1 1).toUInt64 >>> ((σ38.1 a0 2).toInt64.toUInt64 &&& Int64.toUInt64 63)).toInt64) &&& (1 : Int64)) (0 : Int64)) = 0) (g_Mule_makeStep_51 σ38 a0 a1) (bnd (ns_pI σ38 a0 3 ((σ38.1 a0 3) + (σ38.1 a0 7))) fun σ40 => g_Mule_makeStep_51 σ40 a0 a1)
theorem t_Mule_makeStep_110 (G : ns_G) (l : Launch) {p : Program} {e : Env} {s : State} {m : MethodId} {args : Array Value} {below : List Frame} {meth : Method} {c : Code} (C : ns_Cx G p s m args meth c prog_4_method_6_code "NinthStep$Mule" 5) (hr : meth.sig.returnType = (some .boolean)) {r : Int32} {σ' : ns_St}  (σ : ns_St) (a0 : Nat) (x3 : Int32) (x4 : Int32) (hk_a0 : ns_kd a0 = 2) (hf : g_Mule_makeStep_110 σ a0 x3 x4 = some (r, σ')) : VV G p l e { frames := 1, cells := 0, slots := 0, locals := 21 } s m args below meth c 5 0 0 (MQ below (ns_Qc G (some (.int r)) ns_N σ') args s 0 0 (ns_A G)) ns_N σ 110 [(0, .ref (G.1 + a0)), (3, .int x3), (4, .int x4)] [] := by
  unfold g_Mule_makeStep_110 at hf
  refine v_iload_n C 3 1 rfl 111 rfl (by decide +kernel) ?_
  refine v_if_eq C 137 114 rfl (by decide +kernel) (fun h21 => ?_) (fun h21 => ?_)
  · have hf := ite2_t hf h21
    refine v_iload C 4 2 rfl 139 rfl (by decide +kernel) ?_
    obtain ⟨hz22, hf⟩ := grd_e hf
    obtain ⟨rfl, rfl⟩ := ret_e hf
    exact v_zret C hr (ns_z01 hz22) (by decide +kernel)
  · have hf := ite2_f hf h21
    refine v_aload_n C 0 0 rfl 115 rfl (by decide +kernel) ?_
    refine v_getI C 2 0 rfl nin_2 (ns_kd_lt hk_a0 (by decide)) hk_a0 (by decide) (by decide) rfl 9 tw_82 rfl 118 rfl (by decide +kernel) ?_
    refine v_iconst C (4) (4) (by decide) 119 rfl (by decide +kernel) ?_
    refine v_icmp_ne C 137 122 rfl (by decide +kernel) (fun h23 => ?_) (fun h23 => ?_)
    · have hf := ite2_f hf h23
      refine v_iload C 4 2 rfl 139 rfl (by decide +kernel) ?_
      obtain ⟨hz24, hf⟩ := grd_e hf
      obtain ⟨rfl, rfl⟩ := ret_e hf
      exact v_zret C hr (ns_z01 hz24) (by decide +kernel)
    · have hf := ite2_t hf h23
      refine v_aload_n C 0 0 rfl 123 rfl (by decide +kernel) ?_
      refine v_bipush C (64) (64) (by decide) 125 rfl (by decide +kernel) ?_
      refine v_iconst C (2) (2) (by decide) 126 rfl (by decide +kernel) ?_
      refine v_aload_n C 0 0 rfl 127 rfl (by decide +kernel) ?_
      refine v_getI C 2 1 rfl nin_2 (ns_kd_lt hk_a0 (by decide)) hk_a0 (by decide) (by decide) rfl 15 tw_84 rfl 130 rfl (by decide +kernel) ?_
      refine v_imul C 131 rfl (by decide +kernel) ?_
      obtain ⟨r26, σ25, hcr26, hf⟩ := cl2_e hf
      refine v_cS C [.int (64 : Int32), .int ((2 : Int32) * (σ.1 a0 1))] [.ref (G.1 + a0)] (c_Math_min G l σ (64 : Int32) ((2 : Int32) * (σ.1 a0 1)) hcr26) 40 2 tw_663 tw_661 tw_662 tw_18 hd_Math_min rfl ⟨(Nat.le_of_ble_eq_true rfl), (Nat.le_of_ble_eq_true rfl)⟩ ⟨(Nat.le_of_ble_eq_true rfl), (Nat.le_of_ble_eq_true rfl)⟩ (Nat.le_of_ble_eq_true rfl) rfl 134 rfl (by decide +kernel) [.int r26, .ref (G.1 + a0)] rfl ?_
      obtain ⟨σ27, hσ27, hf⟩ := bnd_e hf
      refine v_putI C 2 1 hσ27 rfl nin_2 ny_2 nty_2 nnm_2 (ns_kd_lt hk_a0 (by decide)) hk_a0 (by decide) (by decide) rfl rfl rfl rfl 15 tw_84 rfl 137 rfl (by decide +kernel) ?_
      refine v_iload C 4 2 rfl 139 rfl (by decide +kernel) ?_
      obtain ⟨hz28, hf⟩ := grd_e hf
      obtain ⟨rfl, rfl⟩ := ret_e hf
      exact v_zret C hr (ns_z01 hz28) (by decide +kernel)
theorem t_Mule_makeStep_98 (G : ns_G) (l : Launch) {p : Program} {e : Env} {s : State} {m : MethodId} {args : Array Value} {below : List Frame} {meth : Method} {c : Code} (C : ns_Cx G p s m args meth c prog_4_method_6_code "NinthStep$Mule" 5) (hr : meth.sig.returnType = (some .boolean)) {r : Int32} {σ' : ns_St}  (σ : ns_St) (s0 : Int32) (a0 : Nat) (x3 : Int32) (hk_a0 : ns_kd a0 = 2) (hf : g_Mule_makeStep_98 σ s0 a0 x3 = some (r, σ')) : VV G p l e { frames := 1, cells := 0, slots := 0, locals := 21 } s m args below meth c 5 0 0 (MQ below (ns_Qc G (some (.int r)) ns_N σ') args s 0 0 (ns_A G)) ns_N σ 98 [(0, .ref (G.1 + a0)), (3, .int x3)] [.int s0] := by
  unfold g_Mule_makeStep_98 at hf
  refine v_istore C 4 [(4, .int s0), (0, .ref (G.1 + a0)), (3, .int x3)] (by decide) rfl 100 rfl (by decide +kernel) ?_
  refine v_iload C 4 0 rfl 102 rfl (by decide +kernel) ?_
  refine v_if_eq C 110 105 rfl (by decide +kernel) (fun h29 => ?_) (fun h29 => ?_)
  · have hf := ite2_t hf h29
    refine v_sub [1, 2, 0] rfl ?_
    exact t_Mule_makeStep_110 G l C hr  σ a0 x3 s0 hk_a0 hf
  · have hf := ite2_f hf h29
    refine v_aload_n C 0 1 rfl 106 rfl (by decide +kernel) ?_
    refine v_iconst C (0) (0) (by decide) 107 rfl (by decide +kernel) ?_
    obtain ⟨σ30, hσ30, hf⟩ := bnd_e hf
    refine v_putI C 2 3 hσ30 rfl nin_2 ny_2 nty_2 nnm_2 (ns_kd_lt hk_a0 (by decide)) hk_a0 (by decide) (by decide) rfl rfl rfl rfl 24 tw_94 rfl 110 rfl (by decide +kernel) ?_
    refine v_sub [1, 2, 0] rfl ?_
    exact t_Mule_makeStep_110 G l C hr  σ30 a0 x3 s0 hk_a0 hf
theorem t_Mule_makeStep_93 (G : ns_G) (l : Launch) {p : Program} {e : Env} {s : State} {m : MethodId} {args : Array Value} {below : List Frame} {meth : Method} {c : Code} (C : ns_Cx G p s m args meth c prog_4_method_6_code "NinthStep$Mule" 5) (hr : meth.sig.returnType = (some .boolean)) {r : Int32} {σ' : ns_St}  (σ : ns_St) (a0 : Nat) (x3 : Int32) (hk_a0 : ns_kd a0 = 2) (hf : g_Mule_makeStep_93 σ a0 x3 = some (r, σ')) : VV G p l e { frames := 1, cells := 0, slots := 0, locals := 21 } s m args below meth c 5 0 0 (MQ below (ns_Qc G (some (.int r)) ns_N σ') args s 0 0 (ns_A G)) ns_N σ 93 [(0, .ref (G.1 + a0)), (3, .int x3)] [] := by
  unfold g_Mule_makeStep_93 at hf
  refine v_iconst C (1) (1) (by decide) 94 rfl (by decide +kernel) ?_
  refine v_goto C 98 (by decide +kernel) ?_
  exact t_Mule_makeStep_98 G l C hr  σ (1 : Int32) a0 x3 hk_a0 hf
theorem t_Mule_makeStep_97 (G : ns_G) (l : Launch) {p : Program} {e : Env} {s : State} {m : MethodId} {args : Array Value} {below : List Frame} {meth : Method} {c : Code} (C : ns_Cx G p s m args meth c prog_4_method_6_code "NinthStep$Mule" 5) (hr : meth.sig.returnType = (some .boolean)) {r : Int32} {σ' : ns_St}  (σ : ns_St) (a0 : Nat) (x3 : Int32) (hk_a0 : ns_kd a0 = 2) (hf : g_Mule_makeStep_97 σ a0 x3 = some (r, σ')) : VV G p l e { frames := 1, cells := 0, slots := 0, locals := 21 } s m args below meth c 5 0 0 (MQ below (ns_Qc G (some (.int r)) ns_N σ') args s 0 0 (ns_A G)) ns_N σ 97 [(0, .ref (G.1 + a0)), (3, .int x3)] [] := by
  unfold g_Mule_makeStep_97 at hf
  refine v_iconst C (0) (0) (by decide) 98 rfl (by decide +kernel) ?_
  exact t_Mule_makeStep_98 G l C hr  σ (0 : Int32) a0 x3 hk_a0 hf
theorem t_Mule_makeStep_72 (G : ns_G) (l : Launch) {p : Program} {e : Env} {s : State} {m : MethodId} {args : Array Value} {below : List Frame} {meth : Method} {c : Code} (C : ns_Cx G p s m args meth c prog_4_method_6_code "NinthStep$Mule" 5) (hr : meth.sig.returnType = (some .boolean)) {r : Int32} {σ' : ns_St}  (σ : ns_St) (s0 : Int32) (a0 : Nat) (a1 : Nat) (hk_a0 : ns_kd a0 = 2) (hk_a1 : ns_kd a1 = 1) (hf : g_Mule_makeStep_72 σ s0 a0 a1 = some (r, σ')) : VV G p l e { frames := 1, cells := 0, slots := 0, locals := 21 } s m args below meth c 5 0 0 (MQ below (ns_Qc G (some (.int r)) ns_N σ') args s 0 0 (ns_A G)) ns_N σ 72 [(0, .ref (G.1 + a0)), (1, .ref (G.1 + a1))] [.int s0] := by
  unfold g_Mule_makeStep_72 at hf
  refine v_istore_n C 3 [(3, .int s0), (0, .ref (G.1 + a0)), (1, .ref (G.1 + a1))] (by decide) rfl 73 rfl (by decide +kernel) ?_
  refine v_aload_n C 0 1 rfl 74 rfl (by decide +kernel) ?_
  refine v_aload_n C 1 2 rfl 75 rfl (by decide +kernel) ?_
  obtain ⟨r32, σ31, hcr32, hf⟩ := cl2_e hf
  refine v_cV C 2 rfl (ns_kd_lt hk_a0 (by decide)) hk_a0 (by decide) [.ref (G.1 + a1)] [] (c_Mule_mayStop G l σ a0 a1 hcr32) 55 1 tw_660 tw_657 tw_659 ts_33 tw_4 hd_Mule_mayStop rfl ⟨(Nat.le_of_ble_eq_true rfl), (Nat.le_of_ble_eq_true rfl)⟩ ⟨(Nat.le_of_ble_eq_true rfl), (Nat.le_of_ble_eq_true rfl)⟩ (Nat.le_of_ble_eq_true rfl) rfl 78 rfl (by decide +kernel) [.int r32] rfl ?_
  refine v_if_ne C 93 81 rfl (by decide +kernel) (fun h33 => ?_) (fun h33 => ?_)
  · have hf := ite2_f hf h33
    refine v_sub [1, 0] rfl ?_
    exact t_Mule_makeStep_93 G l C hr  σ31 a0 s0 hk_a0 hf
  · have hf := ite2_t hf h33
    refine v_iload_n C 3 0 rfl 82 rfl (by decide +kernel) ?_
    refine v_if_eq C 97 85 rfl (by decide +kernel) (fun h34 => ?_) (fun h34 => ?_)
    · have hf := ite2_t hf h34
      refine v_sub [1, 0] rfl ?_
      exact t_Mule_makeStep_97 G l C hr  σ31 a0 s0 hk_a0 hf
    · have hf := ite2_f hf h34
      refine v_aload_n C 0 1 rfl 86 rfl (by decide +kernel) ?_
      refine v_getI C 2 0 rfl nin_2 (ns_kd_lt hk_a0 (by decide)) hk_a0 (by decide) (by decide) rfl 9 tw_82 rfl 89 rfl (by decide +kernel) ?_
      refine v_iconst C (5) (5) (by decide) 90 rfl (by decide +kernel) ?_
      refine v_icmp_ne C 97 93 rfl (by decide +kernel) (fun h35 => ?_) (fun h35 => ?_)
      · have hf := ite2_f hf h35
        refine v_sub [1, 0] rfl ?_
        exact t_Mule_makeStep_97 G l C hr  σ31 a0 s0 hk_a0 hf
      · have hf := ite2_t hf h35
        refine v_sub [1, 0] rfl ?_
        exact t_Mule_makeStep_93 G l C hr  σ31 a0 s0 hk_a0 hf
theorem t_Mule_makeStep_51 (G : ns_G) (l : Launch) {p : Program} {e : Env} {s : State} {m : MethodId} {args : Array Value} {below : List Frame} {meth : Method} {c : Code} (C : ns_Cx G p s m args meth c prog_4_method_6_code "NinthStep$Mule" 5) (hr : meth.sig.returnType = (some .boolean)) {r : Int32} {σ' : ns_St}  (σ : ns_St) (a0 : Nat) (a1 : Nat) (hk_a0 : ns_kd a0 = 2) (hk_a1 : ns_kd a1 = 1) (hf : g_Mule_makeStep_51 σ a0 a1 = some (r, σ')) : VV G p l e { frames := 1, cells := 0, slots := 0, locals := 21 } s m args below meth c 5 0 0 (MQ below (ns_Qc G (some (.int r)) ns_N σ') args s 0 0 (ns_A G)) ns_N σ 51 [(0, .ref (G.1 + a0)), (1, .ref (G.1 + a1))] [] := by
  unfold g_Mule_makeStep_51 at hf
  refine v_aload_n C 1 1 rfl 52 rfl (by decide +kernel) ?_
  refine v_getJN C 1 2 rfl nin_1 (ns_kd_lt hk_a1 (by decide)) hk_a1 (by decide) (by decide) rfl 52 tw_52 rfl 55 rfl (by decide +kernel) ?_
  refine v_aload_n C 0 0 rfl 56 rfl (by decide +kernel) ?_
  refine v_getI C 2 2 rfl nin_2 (ns_kd_lt hk_a0 (by decide)) hk_a0 (by decide) (by decide) rfl 21 tw_88 rfl 59 rfl (by decide +kernel) ?_
  refine v_lushr C 60 rfl (by decide +kernel) ?_
  refine v_lconst C 1 (1) (by decide) 61 rfl (by decide +kernel) ?_
  refine v_land C 62 rfl (by decide +kernel) ?_
  refine v_lconst C 0 (0) (by decide) 63 rfl (by decide +kernel) ?_
  refine v_lcmp C 64 rfl (by decide +kernel) ?_
  refine v_if_eq C 71 67 rfl (by decide +kernel) (fun h36 => ?_) (fun h36 => ?_)
  · have hf := ite2_t hf h36
    refine v_iconst C (0) (0) (by decide) 72 rfl (by decide +kernel) ?_
    exact t_Mule_makeStep_72 G l C hr  σ (0 : Int32) a0 a1 hk_a0 hk_a1 hf
  · have hf := ite2_f hf h36
    refine v_iconst C (1) (1) (by decide) 68 rfl (by decide +kernel) ?_
    refine v_goto C 72 (by decide +kernel) ?_
    exact t_Mule_makeStep_72 G l C hr  σ (1 : Int32) a0 a1 hk_a0 hk_a1 hf
theorem c_Mule_makeStep (G : ns_G) (l : Launch) (σ : ns_St) (a0 : Nat) (a1 : Nat) (x2 : Int32) {r : Int32} {σ' : ns_St} (hf : g_Mule_makeStep σ a0 a1 x2 = some (r, σ')) : ns_ok G l ⟨"NinthStep$Mule", "makeStep", "(LNinthStep$Ground;I)Z"⟩ prog_4_method_6_code 5 (some .boolean) 1 21 0 0 [.ref (G.1 + a0), .ref (G.1 + a1), .int x2] ns_N σ (some (.int r)) ns_N σ' := by
  refine v_open (by decide) (Nat.le_of_ble_eq_true rfl) rfl ?_
  intro p e s m below meth c C hr _
  have C : ns_Cx G p s m _ meth c prog_4_method_6_code "NinthStep$Mule" 5 := C
  unfold g_Mule_makeStep at hf
  obtain ⟨hk_a0, hf⟩ := grd_e hf
  obtain ⟨hk_a1, hf⟩ := grd_e hf
  refine v_aload_n C 0 0 rfl 1 rfl (by decide +kernel) ?_
  refine v_dup C rfl 2 rfl (by decide +kernel) ?_
  refine v_getI C 2 2 rfl nin_2 (ns_kd_lt hk_a0 (by decide)) hk_a0 (by decide) (by decide) rfl 21 tw_88 rfl 5 rfl (by decide +kernel) ?_
  refine v_iconst C (1) (1) (by decide) 6 rfl (by decide +kernel) ?_
  refine v_iadd C 7 rfl (by decide +kernel) ?_
  obtain ⟨σ37, hσ37, hf⟩ := bnd_e hf
  refine v_putI C 2 2 hσ37 rfl nin_2 ny_2 nty_2 nnm_2 (ns_kd_lt hk_a0 (by decide)) hk_a0 (by decide) (by decide) rfl rfl rfl rfl 21 tw_88 rfl 10 rfl (by decide +kernel) ?_
  refine v_aload_n C 0 0 rfl 11 rfl (by decide +kernel) ?_
  refine v_dup C rfl 12 rfl (by decide +kernel) ?_
  refine v_getI C 2 3 rfl nin_2 (ns_kd_lt hk_a0 (by decide)) hk_a0 (by decide) (by decide) rfl 24 tw_94 rfl 15 rfl (by decide +kernel) ?_
  refine v_iconst C (1) (1) (by decide) 16 rfl (by decide +kernel) ?_
  refine v_iload_n C 2 2 rfl 17 rfl (by decide +kernel) ?_
  refine v_iadd C 18 rfl (by decide +kernel) ?_
  refine v_iadd C 19 rfl (by decide +kernel) ?_
  obtain ⟨σ38, hσ38, hf⟩ := bnd_e hf
  refine v_putI C 2 3 hσ38 rfl nin_2 ny_2 nty_2 nnm_2 (ns_kd_lt hk_a0 (by decide)) hk_a0 (by decide) (by decide) rfl rfl rfl rfl 24 tw_94 rfl 22 rfl (by decide +kernel) ?_
  refine v_aload_n C 1 1 rfl 23 rfl (by decide +kernel) ?_
  refine v_getJN C 1 1 rfl nin_1 (ns_kd_lt hk_a1 (by decide)) hk_a1 (by decide) (by decide) rfl 46 tw_49 rfl 26 rfl (by decide +kernel) ?_
  refine v_aload_n C 0 0 rfl 27 rfl (by decide +kernel) ?_
  refine v_getI C 2 2 rfl nin_2 (ns_kd_lt hk_a0 (by decide)) hk_a0 (by decide) (by decide) rfl 21 tw_88 rfl 30 rfl (by decide +kernel) ?_
  refine v_lushr C 31 rfl (by decide +kernel) ?_
  refine v_lconst C 1 (1) (by decide) 32 rfl (by decide +kernel) ?_
  refine v_land C 33 rfl (by decide +kernel) ?_
  refine v_lconst C 0 (0) (by decide) 34 rfl (by decide +kernel) ?_
  refine v_lcmp C 35 rfl (by decide +kernel) ?_
  refine v_if_eq C 51 38 rfl (by decide +kernel) (fun h39 => ?_) (fun h39 => ?_)
  · have hf := ite2_t hf h39
    refine v_sub [0, 1] rfl ?_
    exact t_Mule_makeStep_51 G l C hr  σ38 a0 a1 hk_a0 hk_a1 hf
  · have hf := ite2_f hf h39
    refine v_aload_n C 0 0 rfl 39 rfl (by decide +kernel) ?_
    refine v_dup C rfl 40 rfl (by decide +kernel) ?_
    refine v_getI C 2 3 rfl nin_2 (ns_kd_lt hk_a0 (by decide)) hk_a0 (by decide) (by decide) rfl 24 tw_94 rfl 43 rfl (by decide +kernel) ?_
    refine v_aload_n C 0 0 rfl 44 rfl (by decide +kernel) ?_
    refine v_getI C 2 7 rfl nin_2 (ns_kd_lt hk_a0 (by decide)) hk_a0 (by decide) (by decide) rfl 37 tw_106 rfl 47 rfl (by decide +kernel) ?_
    refine v_iadd C 48 rfl (by decide +kernel) ?_
    obtain ⟨σ40, hσ40, hf⟩ := bnd_e hf
    refine v_putI C 2 3 hσ40 rfl nin_2 ny_2 nty_2 nnm_2 (ns_kd_lt hk_a0 (by decide)) hk_a0 (by decide) (by decide) rfl rfl rfl rfl 24 tw_94 rfl 51 rfl (by decide +kernel) ?_
    refine v_sub [0, 1] rfl ?_
    exact t_Mule_makeStep_51 G l C hr  σ40 a0 a1 hk_a0 hk_a1 hf
theorem hd_Mule_makeStep : (⟨"NinthStep$Mule", "makeStep", "(LNinthStep$Ground;I)Z"⟩ : MethodName).cls = "NinthStep$Mule" ∧ (⟨"NinthStep$Mule", "makeStep", "(LNinthStep$Ground;I)Z"⟩ : MethodName).cls ≠ "java/lang/invoke/MethodHandle" ∧ (⟨"NinthStep$Mule", "makeStep", "(LNinthStep$Ground;I)Z"⟩ : MethodName).cls ≠ "java/lang/invoke/VarHandle" ∧ (parseMethodDescriptor (⟨"NinthStep$Mule", "makeStep", "(LNinthStep$Ground;I)Z"⟩ : MethodName).desc).map (fun d => d.parameters.length) = some 2 := by decide +kernel
