def g_N_lucky_22  : Nat → ns_St → Nat → Nat → Int32 → Option (Int32 × ns_St)
  | 0, _, _, _, _ => none
  | f + 1, σ, a0, a2, x3 => ite2 ((13 : Int32) < x3) (some ((-1 : Int32), σ)) (cl2 (g_N_stopsBy σ a0 a2 (σ.1 a2 2) x3 (0 : Int32)) fun r16 σ15 => cl2 (g_N_isGood σ15 a0 (σ.1 a2 2) r16) fun r18 σ17 => ite2 (r18 = 0) (bnd (x3 + 1) fun z20 => (g_N_lucky_22 f) σ17 a0 a2 z20) (some (x3, σ17)))
def g_N_lucky (σ : ns_St) (a0 : Nat) (x1 : Int32) : Option (Int32 × ns_St) := grd (ns_kd a0 = 8) <| drf (σ.2.2 a0 0) fun b21 => grd (ns_kd b21 = 7) <| cl2 (g_World_muleAt σ b21 x1) fun r23 σ22 => onul r23 (cl2 (g_N_refuse σ22 a0 (-2 : Int32)) fun r26 σ25 => some (r26, σ25)) (fun b24 => grd (ns_kd b24 = 2) <| g_N_lucky_22 ns_F σ22 a0 b24 (2 : Int32))
theorem t_N_lucky_22 (G : ns_G) (l : Launch) {p : Program} {e : Env} {s : State} {m : MethodId} {args : Array Value} {below : List Frame} {meth : Method} {c : Code} (C : ns_Cx G p s m args meth c prog_1_method_38_code "NinthStep" 4) (hr : meth.sig.returnType = (some .int)) {r : Int32} {σ' : ns_St}  : ∀ (f : Nat) (σ : ns_St) (a0 : Nat) (a2 : Nat) (x3 : Int32) (hk_a0 : ns_kd a0 = 8) (hk_a2 : ns_kd a2 = 2), g_N_lucky_22 f σ a0 a2 x3 = some (r, σ') → VV G p l e { frames := 3, cells := 0, slots := 0, locals := 72 } s m args below meth c 4 0 0 (MQ below (ns_Qc G (some (.int r)) ns_N σ') args s 0 0 (ns_A G)) ns_N σ 22 [(0, .ref (G.1 + a0)), (2, .ref (G.1 + a2)), (3, .int x3)] [] := by
  intro f
  induction f with
  | zero =>
    intro σ a0 a2 x3 hk_a0 hk_a2 hf
    cases hf
  | succ f ih =>
    intro σ a0 a2 x3 hk_a0 hk_a2 hf
    rw [g_N_lucky_22] at hf
    refine v_iload_n C 3 2 rfl 23 rfl (by decide +kernel) ?_
    refine v_bipush C (13) (13) (by decide) 25 rfl (by decide +kernel) ?_
    refine v_icmp_gt C 58 28 rfl (by decide +kernel) (fun h14 => ?_) (fun h14 => ?_)
    · have hf := ite2_t hf h14
      refine v_iconst C (-1) (-1) (by decide) 59 rfl (by decide +kernel) ?_
      obtain ⟨rfl, rfl⟩ := ret_e hf
      exact v_iret C hr (by decide +kernel)
    · have hf := ite2_f hf h14
      refine v_aload_n C 0 0 rfl 29 rfl (by decide +kernel) ?_
      refine v_aload_n C 2 1 rfl 30 rfl (by decide +kernel) ?_
      refine v_getIN C 2 2 rfl nin_2 (ns_kd_lt hk_a2 (by decide)) hk_a2 (by decide) (by decide) rfl 179 tw_93 rfl 33 rfl (by decide +kernel) ?_
      refine v_aload_n C 0 0 rfl 34 rfl (by decide +kernel) ?_
      refine v_aload_n C 2 1 rfl 35 rfl (by decide +kernel) ?_
      refine v_aload_n C 2 1 rfl 36 rfl (by decide +kernel) ?_
      refine v_getIN C 2 2 rfl nin_2 (ns_kd_lt hk_a2 (by decide)) hk_a2 (by decide) (by decide) rfl 179 tw_93 rfl 39 rfl (by decide +kernel) ?_
      refine v_iload_n C 3 2 rfl 40 rfl (by decide +kernel) ?_
      refine v_iconst C (0) (0) (by decide) 41 rfl (by decide +kernel) ?_
      obtain ⟨r16, σ15, hcr16, hf⟩ := cl2_e hf
      refine v_cV C 8 rfl (ns_kd_lt hk_a0 (by decide)) hk_a0 (by decide) [.ref (G.1 + a2), .int (σ.1 a2 2), .int x3, .int (0 : Int32)] [.int (σ.1 a2 2), .ref (G.1 + a0)] (c_N_stopsBy G l σ a0 a2 (σ.1 a2 2) x3 (0 : Int32) hcr16) 258 4 tw_647 tw_644 tw_646 ts_30 tw_1 hd_N_stopsBy rfl ⟨(Nat.le_of_ble_eq_true rfl), (Nat.le_of_ble_eq_true rfl)⟩ ⟨(Nat.le_of_ble_eq_true rfl), (Nat.le_of_ble_eq_true rfl)⟩ (Nat.le_of_ble_eq_true rfl) rfl 44 rfl (by decide +kernel) [.long r16, .int (σ.1 a2 2), .ref (G.1 + a0)] rfl ?_
      obtain ⟨r18, σ17, hcr18, hf⟩ := cl2_e hf
      refine v_cV C 8 rfl (ns_kd_lt hk_a0 (by decide)) hk_a0 (by decide) [.int (σ.1 a2 2), .long r16] [] (c_N_isGood G l σ15 a0 (σ.1 a2 2) r16 hcr18) 230 2 tw_690 tw_687 tw_689 ts_36 tw_1 hd_N_isGood rfl ⟨(Nat.le_of_ble_eq_true rfl), (Nat.le_of_ble_eq_true rfl)⟩ ⟨(Nat.le_of_ble_eq_true rfl), (Nat.le_of_ble_eq_true rfl)⟩ (Nat.le_of_ble_eq_true rfl) rfl 47 rfl (by decide +kernel) [.int r18] rfl ?_
      refine v_if_eq C 52 50 rfl (by decide +kernel) (fun h19 => ?_) (fun h19 => ?_)
      · have hf := ite2_t hf h19
        obtain ⟨z20, hz20, hf⟩ := bnd_e hf
        refine v_iinc C 3 (1) 2 z20 rfl (by rw [hz20]; rfl) [(3, .int z20), (0, .ref (G.1 + a0)), (2, .ref (G.1 + a2))] (by decide) rfl 55 rfl (by decide +kernel) ?_
        refine v_goto C 22 (by decide +kernel) ?_
        refine v_sub [1, 2, 0] rfl ?_
        exact ih σ17 a0 a2 z20 hk_a0 hk_a2 hf
      · have hf := ite2_f hf h19
        refine v_iload_n C 3 2 rfl 51 rfl (by decide +kernel) ?_
        obtain ⟨rfl, rfl⟩ := ret_e hf
        exact v_iret C hr (by decide +kernel)
theorem c_N_lucky (G : ns_G) (l : Launch) (σ : ns_St) (a0 : Nat) (x1 : Int32) {r : Int32} {σ' : ns_St} (hf : g_N_lucky σ a0 x1 = some (r, σ')) : ns_ok G l ⟨"NinthStep", "lucky", "(I)I"⟩ prog_1_method_38_code 4 (some .int) 3 72 0 0 [.ref (G.1 + a0), .int x1] ns_N σ (some (.int r)) ns_N σ' := by
  refine v_open (by decide) (Nat.le_of_ble_eq_true rfl) rfl ?_
  intro p e s m below meth c C hr _
  have C : ns_Cx G p s m _ meth c prog_1_method_38_code "NinthStep" 4 := C
  unfold g_N_lucky at hf
  obtain ⟨hk_a0, hf⟩ := grd_e hf
  refine v_aload_n C 0 0 rfl 1 rfl (by decide +kernel) ?_
  obtain ⟨b21, hb21, hf⟩ := drf_e hf
  obtain ⟨hk_b21, hf⟩ := grd_e hf
  refine v_getR C 8 0 hb21 rfl nin_8 (ns_kd_lt hk_a0 (by decide)) hk_a0 (by decide) (by decide) rfl 12 tw_287 rfl 4 rfl (by decide +kernel) ?_
  refine v_iload_n C 1 1 rfl 5 rfl (by decide +kernel) ?_
  obtain ⟨r23, σ22, hcr23, hf⟩ := cl2_e hf
  rcases r23 with _ | b24
  · have hf := onul_n hf
    refine v_cVN C 7 rfl (ns_kd_lt hk_b21 (by decide)) hk_b21 (by decide) [.int x1] [] (c_World_muleAt G l σ b21 x1 hcr23) 120 1 tw_390 tw_387 tw_389 ts_7 tw_2 hd_World_muleAt rfl ⟨(Nat.le_of_ble_eq_true rfl), (Nat.le_of_ble_eq_true rfl)⟩ ⟨(Nat.le_of_ble_eq_true rfl), (Nat.le_of_ble_eq_true rfl)⟩ (Nat.le_of_ble_eq_true rfl) rfl 8 rfl (by decide +kernel) [.null] rfl ?_
    refine v_astore_nN C 2 [(2, .null), (0, .ref (G.1 + a0)), (1, .int x1)] (by decide) rfl 9 rfl (by decide +kernel) ?_
    refine v_aload_nN C 2 0 rfl 10 rfl (by decide +kernel) ?_
    refine v_ifnonnullN C 20 13 rfl (by decide +kernel) ?_
    refine v_aload_n C 0 1 rfl 14 rfl (by decide +kernel) ?_
    refine v_bipush C (-2) (-2) (by decide) 16 rfl (by decide +kernel) ?_
    obtain ⟨r26, σ25, hcr26, hf⟩ := cl2_e hf
    refine v_cV C 8 rfl (ns_kd_lt hk_a0 (by decide)) hk_a0 (by decide) [.int (-2 : Int32)] [] (c_N_refuse G l σ22 a0 (-2 : Int32) hcr26) 79 1 tw_338 tw_335 tw_337 ts_1 tw_1 hd_N_refuse rfl ⟨(Nat.le_of_ble_eq_true rfl), (Nat.le_of_ble_eq_true rfl)⟩ ⟨(Nat.le_of_ble_eq_true rfl), (Nat.le_of_ble_eq_true rfl)⟩ (Nat.le_of_ble_eq_true rfl) rfl 19 rfl (by decide +kernel) [.int r26] rfl ?_
    obtain ⟨rfl, rfl⟩ := ret_e hf
    exact v_iret C hr (by decide +kernel)
  · have hf := onul_s hf
    obtain ⟨hk_b24, hf⟩ := grd_e hf
    refine v_cVN C 7 rfl (ns_kd_lt hk_b21 (by decide)) hk_b21 (by decide) [.int x1] [] (c_World_muleAt G l σ b21 x1 hcr23) 120 1 tw_390 tw_387 tw_389 ts_7 tw_2 hd_World_muleAt rfl ⟨(Nat.le_of_ble_eq_true rfl), (Nat.le_of_ble_eq_true rfl)⟩ ⟨(Nat.le_of_ble_eq_true rfl), (Nat.le_of_ble_eq_true rfl)⟩ (Nat.le_of_ble_eq_true rfl) rfl 8 rfl (by decide +kernel) [.ref (G.1 + b24)] rfl ?_
    refine v_astore_n C 2 [(2, .ref (G.1 + b24)), (0, .ref (G.1 + a0)), (1, .int x1)] (by decide) rfl 9 rfl (by decide +kernel) ?_
    refine v_aload_n C 2 0 rfl 10 rfl (by decide +kernel) ?_
    refine v_ifnonnull C 20 (by decide +kernel) ?_
    refine v_iconst C (2) (2) (by decide) 21 rfl (by decide +kernel) ?_
    refine v_istore_n C 3 [(3, .int (2 : Int32)), (2, .ref (G.1 + b24)), (0, .ref (G.1 + a0)), (1, .int x1)] (by decide) rfl 22 rfl (by decide +kernel) ?_
    refine v_sub [2, 1, 0] rfl ?_
    exact t_N_lucky_22 G l C hr  ns_F σ22 a0 b24 (2 : Int32) hk_a0 hk_b24 hf
theorem hd_N_lucky : (⟨"NinthStep", "lucky", "(I)I"⟩ : MethodName).cls = "NinthStep" ∧ (⟨"NinthStep", "lucky", "(I)I"⟩ : MethodName).cls ≠ "java/lang/invoke/MethodHandle" ∧ (⟨"NinthStep", "lucky", "(I)I"⟩ : MethodName).cls ≠ "java/lang/invoke/VarHandle" ∧ (parseMethodDescriptor (⟨"NinthStep", "lucky", "(I)I"⟩ : MethodName).desc).map (fun d => d.parameters.length) = some 1 := by decide +kernel
def g_World_restInTruth (σ : ns_St) (a0 : Nat) (a1 : Nat) : Option (Unit × ns_St) := grd (ns_kd a0 = 7) <| grd (ns_kd a1 = 2) <| bnd (ns_pI σ a1 4 ((σ.1 a1 4) + (σ.1 a1 6))) fun σ7 => drf (σ7.2.2 a0 0) fun b8 => grd (ns_kd b8 = 1) <| cl2 (g_N_isIn σ7 (σ7.2.1 b8 3) (σ7.1 a1 2)) fun r10 σ9 => ite2 (r10 = 0) (some ((), σ9)) (bnd (ns_pI σ9 a0 4 ((σ9.1 a0 4) + (1 : Int32))) fun σ12 => some ((), σ12))
theorem c_World_restInTruth (G : ns_G) (l : Launch) (σ : ns_St) (a0 : Nat) (a1 : Nat) {r : Unit} {σ' : ns_St} (hf : g_World_restInTruth σ a0 a1 = some (r, σ')) : ns_ok G l ⟨"NinthStep$World", "restInTruth", "(LNinthStep$Mule;)V"⟩ prog_9_method_7_code 2 none 1 22 0 0 [.ref (G.1 + a0), .ref (G.1 + a1)] ns_N σ none ns_N σ' := by
  refine v_open (by decide) (Nat.le_of_ble_eq_true rfl) rfl ?_
  intro p e s m below meth c C hr _
  have C : ns_Cx G p s m _ meth c prog_9_method_7_code "NinthStep$World" 2 := C
  unfold g_World_restInTruth at hf
  obtain ⟨hk_a0, hf⟩ := grd_e hf
  obtain ⟨hk_a1, hf⟩ := grd_e hf
  refine v_aload_n C 1 1 rfl 1 rfl (by decide +kernel) ?_
  refine v_dup C rfl 2 rfl (by decide +kernel) ?_
  refine v_getIN C 2 4 rfl nin_2 (ns_kd_lt hk_a1 (by decide)) hk_a1 (by decide) (by decide) rfl 56 tw_99 rfl 5 rfl (by decide +kernel) ?_
  refine v_aload_n C 1 1 rfl 6 rfl (by decide +kernel) ?_
  refine v_getIN C 2 6 rfl nin_2 (ns_kd_lt hk_a1 (by decide)) hk_a1 (by decide) (by decide) rfl 59 tw_104 rfl 9 rfl (by decide +kernel) ?_
  refine v_iadd C 10 rfl (by decide +kernel) ?_
  obtain ⟨σ7, hσ7, hf⟩ := bnd_e hf
  refine v_putIN C 2 4 hσ7 rfl nin_2 ny_2 nty_2 nnm_2 (ns_kd_lt hk_a1 (by decide)) hk_a1 (by decide) (by decide) rfl rfl rfl rfl 56 tw_99 rfl 13 rfl (by decide +kernel) ?_
  refine v_aload_n C 0 0 rfl 14 rfl (by decide +kernel) ?_
  obtain ⟨b8, hb8, hf⟩ := drf_e hf
  obtain ⟨hk_b8, hf⟩ := grd_e hf
  refine v_getR C 7 0 hb8 rfl nin_7 (ns_kd_lt hk_a0 (by decide)) hk_a0 (by decide) (by decide) rfl 12 tw_125 rfl 17 rfl (by decide +kernel) ?_
  refine v_getJN C 1 3 rfl nin_1 (ns_kd_lt hk_b8 (by decide)) hk_b8 (by decide) (by decide) rfl 62 tw_57 rfl 20 rfl (by decide +kernel) ?_
  refine v_aload_n C 1 1 rfl 21 rfl (by decide +kernel) ?_
  refine v_getIN C 2 2 rfl nin_2 (ns_kd_lt hk_a1 (by decide)) hk_a1 (by decide) (by decide) rfl 66 tw_91 rfl 24 rfl (by decide +kernel) ?_
  obtain ⟨r10, σ9, hcr10, hf⟩ := cl2_e hf
  refine v_cSN C [.long (σ7.2.1 b8 3), .int (σ7.1 a1 2)] [] (c_N_isIn G l σ7 (σ7.2.1 b8 3) (σ7.1 a1 2) hcr10) 69 2 tw_455 tw_921 tw_454 tw_1 hd_N_isIn rfl ⟨(Nat.le_of_ble_eq_true rfl), (Nat.le_of_ble_eq_true rfl)⟩ ⟨(Nat.le_of_ble_eq_true rfl), (Nat.le_of_ble_eq_true rfl)⟩ (Nat.le_of_ble_eq_true rfl) rfl 27 rfl (by decide +kernel) [.int r10] rfl ?_
  refine v_if_eq C 40 30 rfl (by decide +kernel) (fun h11 => ?_) (fun h11 => ?_)
  · have hf := ite2_t hf h11
    obtain ⟨rfl, rfl⟩ := ret_e hf
    exact v_vret C hr (by decide +kernel)
  · have hf := ite2_f hf h11
    refine v_aload_n C 0 0 rfl 31 rfl (by decide +kernel) ?_
    refine v_dup C rfl 32 rfl (by decide +kernel) ?_
    refine v_getI C 7 4 rfl nin_7 (ns_kd_lt hk_a0 (by decide)) hk_a0 (by decide) (by decide) rfl 42 tw_138 rfl 35 rfl (by decide +kernel) ?_
    refine v_iconst C (1) (1) (by decide) 36 rfl (by decide +kernel) ?_
    refine v_iadd C 37 rfl (by decide +kernel) ?_
    obtain ⟨σ12, hσ12, hf⟩ := bnd_e hf
    refine v_putI C 7 4 hσ12 rfl nin_7 ny_7 nty_7 nnm_7 (ns_kd_lt hk_a0 (by decide)) hk_a0 (by decide) (by decide) rfl rfl rfl rfl 42 tw_138 rfl 40 rfl (by decide +kernel) ?_
    obtain ⟨rfl, rfl⟩ := ret_e hf
    exact v_vret C hr (by decide +kernel)
theorem hd_World_restInTruth : (⟨"NinthStep$World", "restInTruth", "(LNinthStep$Mule;)V"⟩ : MethodName).cls = "NinthStep$World" ∧ (⟨"NinthStep$World", "restInTruth", "(LNinthStep$Mule;)V"⟩ : MethodName).cls ≠ "java/lang/invoke/MethodHandle" ∧ (⟨"NinthStep$World", "restInTruth", "(LNinthStep$Mule;)V"⟩ : MethodName).cls ≠ "java/lang/invoke/VarHandle" ∧ (parseMethodDescriptor (⟨"NinthStep$World", "restInTruth", "(LNinthStep$Mule;)V"⟩ : MethodName).desc).map (fun d => d.parameters.length) = some 1 := by decide +kernel
def g_World_stepInTruth (σ : ns_St) (a0 : Nat) (a1 : Nat) (x2 : Int32) : Option (Unit × ns_St) := grd (ns_kd a0 = 7) <| grd (ns_kd a1 = 2) <| drf (σ.2.2 a0 0) fun b7 => grd (ns_kd b7 = 1) <| cl2 (g_Mule_makeStep σ a1 b7 x2) fun r9 σ8 => ite2 (r9 = 0) (some ((), σ8)) (cl2 (g_World_restInTruth σ8 a0 a1) fun r12 σ11 => some ((), σ11))
theorem c_World_stepInTruth (G : ns_G) (l : Launch) (σ : ns_St) (a0 : Nat) (a1 : Nat) (x2 : Int32) {r : Unit} {σ' : ns_St} (hf : g_World_stepInTruth σ a0 a1 x2 = some (r, σ')) : ns_ok G l ⟨"NinthStep$World", "stepInTruth", "(LNinthStep$Mule;I)V"⟩ prog_9_method_5_code 3 none 2 45 0 0 [.ref (G.1 + a0), .ref (G.1 + a1), .int x2] ns_N σ none ns_N σ' := by
  refine v_open (by decide) (Nat.le_of_ble_eq_true rfl) rfl ?_
  intro p e s m below meth c C hr _
  have C : ns_Cx G p s m _ meth c prog_9_method_5_code "NinthStep$World" 3 := C
  unfold g_World_stepInTruth at hf
  obtain ⟨hk_a0, hf⟩ := grd_e hf
  obtain ⟨hk_a1, hf⟩ := grd_e hf
  refine v_aload_n C 1 1 rfl 1 rfl (by decide +kernel) ?_
  refine v_aload_n C 0 0 rfl 2 rfl (by decide +kernel) ?_
  obtain ⟨b7, hb7, hf⟩ := drf_e hf
  obtain ⟨hk_b7, hf⟩ := grd_e hf
  refine v_getR C 7 0 hb7 rfl nin_7 (ns_kd_lt hk_a0 (by decide)) hk_a0 (by decide) (by decide) rfl 12 tw_125 rfl 5 rfl (by decide +kernel) ?_
  refine v_iload_n C 2 2 rfl 6 rfl (by decide +kernel) ?_
  obtain ⟨r9, σ8, hcr9, hf⟩ := cl2_e hf
  refine v_cVN C 2 rfl (ns_kd_lt hk_a1 (by decide)) hk_a1 (by decide) [.ref (G.1 + b7), .int x2] [] (c_Mule_makeStep G l σ a1 b7 x2 hcr9) 45 2 tw_656 tw_916 tw_655 ts_32 tw_4 hd_Mule_makeStep rfl ⟨(Nat.le_of_ble_eq_true rfl), (Nat.le_of_ble_eq_true rfl)⟩ ⟨(Nat.le_of_ble_eq_true rfl), (Nat.le_of_ble_eq_true rfl)⟩ (Nat.le_of_ble_eq_true rfl) rfl 9 rfl (by decide +kernel) [.int r9] rfl ?_
  refine v_if_eq C 17 12 rfl (by decide +kernel) (fun h10 => ?_) (fun h10 => ?_)
  · have hf := ite2_t hf h10
    obtain ⟨rfl, rfl⟩ := ret_e hf
    exact v_vret C hr (by decide +kernel)
  · have hf := ite2_f hf h10
    refine v_aload_n C 0 0 rfl 13 rfl (by decide +kernel) ?_
    refine v_aload_n C 1 1 rfl 14 rfl (by decide +kernel) ?_
    obtain ⟨r12, σ11, hcr12, hf⟩ := cl2_e hf
    refine v_cV C 7 rfl (ns_kd_lt hk_a0 (by decide)) hk_a0 (by decide) [.ref (G.1 + a1)] [] (c_World_restInTruth G l σ8 a0 a1 hcr12) 49 1 tw_920 tw_917 tw_919 ts_68 tw_2 hd_World_restInTruth rfl ⟨(Nat.le_of_ble_eq_true rfl), (Nat.le_of_ble_eq_true rfl)⟩ ⟨(Nat.le_of_ble_eq_true rfl), (Nat.le_of_ble_eq_true rfl)⟩ (Nat.le_of_ble_eq_true rfl) rfl 17 rfl (by decide +kernel) [] rfl ?_
    obtain ⟨rfl, rfl⟩ := ret_e hf
    exact v_vret C hr (by decide +kernel)
theorem hd_World_stepInTruth : (⟨"NinthStep$World", "stepInTruth", "(LNinthStep$Mule;I)V"⟩ : MethodName).cls = "NinthStep$World" ∧ (⟨"NinthStep$World", "stepInTruth", "(LNinthStep$Mule;I)V"⟩ : MethodName).cls ≠ "java/lang/invoke/MethodHandle" ∧ (⟨"NinthStep$World", "stepInTruth", "(LNinthStep$Mule;I)V"⟩ : MethodName).cls ≠ "java/lang/invoke/VarHandle" ∧ (parseMethodDescriptor (⟨"NinthStep$World", "stepInTruth", "(LNinthStep$Mule;I)V"⟩ : MethodName).desc).map (fun d => d.parameters.length) = some 2 := by decide +kernel
def g_N_goes_33  : Nat → ns_St → Nat → Int32 → Nat → Int32 → Option (Int32 × ns_St)
  | 0, _, _, _, _, _ => none
  | f + 1, σ, a0, x2, a3, x4 => ite2 (x2 ≤ x4) (some ((σ.1 a3 2), σ)) (drf (σ.2.2 a0 0) fun b21 => grd (ns_kd b21 = 7) <| drf (σ.2.2 b21 0) fun b22 => grd (ns_kd b22 = 1) <| ite2 ((σ.1 b22 0) ≤ (σ.1 a3 2)) (some ((σ.1 a3 2), σ)) (drf (σ.2.2 a0 0) fun b24 => grd (ns_kd b24 = 7) <| cl2 (g_World_stepInTruth σ b24 a3 (0 : Int32)) fun r26 σ25 => bnd (x4 + 1) fun z27 => (g_N_goes_33 f) σ25 a0 x2 a3 z27))
def g_N_goes (σ : ns_St) (a0 : Nat) (x1 : Int32) (x2 : Int32) : Option (Int32 × ns_St) := grd (ns_kd a0 = 8) <| drf (σ.2.2 a0 0) fun b28 => grd (ns_kd b28 = 7) <| cl2 (g_World_muleAt σ b28 x1) fun r30 σ29 => onul r30 (cl2 (g_N_refuse σ29 a0 (-2 : Int32)) fun r33 σ32 => some (r33, σ32)) (fun b31 => grd (ns_kd b31 = 2) <| cl2 (g_N_isWithin σ29 x2 (1 : Int32) (60 : Int32)) fun r35 σ34 => ite2 (r35 = 0) (cl2 (g_N_refuse σ34 a0 (-2 : Int32)) fun r38 σ37 => some (r38, σ37)) (g_N_goes_33 ns_F σ34 a0 x2 b31 (0 : Int32)))
theorem t_N_goes_33 (G : ns_G) (l : Launch) {p : Program} {e : Env} {s : State} {m : MethodId} {args : Array Value} {below : List Frame} {meth : Method} {c : Code} (C : ns_Cx G p s m args meth c prog_1_method_39_code "NinthStep" 5) (hr : meth.sig.returnType = (some .int)) {r : Int32} {σ' : ns_St}  : ∀ (f : Nat) (σ : ns_St) (a0 : Nat) (x2 : Int32) (a3 : Nat) (x4 : Int32) (hk_a0 : ns_kd a0 = 8) (hk_a3 : ns_kd a3 = 2), g_N_goes_33 f σ a0 x2 a3 x4 = some (r, σ') → VV G p l e { frames := 3, cells := 0, slots := 0, locals := 67 } s m args below meth c 5 0 0 (MQ below (ns_Qc G (some (.int r)) ns_N σ') args s 0 0 (ns_A G)) ns_N σ 33 [(0, .ref (G.1 + a0)), (2, .int x2), (3, .ref (G.1 + a3)), (4, .int x4)] [] := by
  intro f
  induction f with
  | zero =>
    intro σ a0 x2 a3 x4 hk_a0 hk_a3 hf
    cases hf
  | succ f ih =>
    intro σ a0 x2 a3 x4 hk_a0 hk_a3 hf
    rw [g_N_goes_33] at hf
    refine v_iload C 4 3 rfl 35 rfl (by decide +kernel) ?_
    refine v_iload_n C 2 1 rfl 36 rfl (by decide +kernel) ?_
    refine v_icmp_ge C 71 39 rfl (by decide +kernel) (fun h20 => ?_) (fun h20 => ?_)
    · have hf := ite2_t hf h20
      refine v_aload_n C 3 2 rfl 72 rfl (by decide +kernel) ?_
      refine v_getIN C 2 2 rfl nin_2 (ns_kd_lt hk_a3 (by decide)) hk_a3 (by decide) (by decide) rfl 179 tw_93 rfl 75 rfl (by decide +kernel) ?_
      obtain ⟨rfl, rfl⟩ := ret_e hf
      exact v_iret C hr (by decide +kernel)
    · have hf := ite2_f hf h20
      refine v_aload_n C 3 2 rfl 40 rfl (by decide +kernel) ?_
      refine v_getIN C 2 2 rfl nin_2 (ns_kd_lt hk_a3 (by decide)) hk_a3 (by decide) (by decide) rfl 179 tw_93 rfl 43 rfl (by decide +kernel) ?_
      refine v_aload_n C 0 0 rfl 44 rfl (by decide +kernel) ?_
      obtain ⟨b21, hb21, hf⟩ := drf_e hf
      obtain ⟨hk_b21, hf⟩ := grd_e hf
      refine v_getR C 8 0 hb21 rfl nin_8 (ns_kd_lt hk_a0 (by decide)) hk_a0 (by decide) (by decide) rfl 12 tw_287 rfl 47 rfl (by decide +kernel) ?_
      obtain ⟨b22, hb22, hf⟩ := drf_e hf
      obtain ⟨hk_b22, hf⟩ := grd_e hf
      refine v_getRN C 7 0 hb22 rfl nin_7 (ns_kd_lt hk_b21 (by decide)) hk_b21 (by decide) (by decide) rfl 138 tw_128 rfl 50 rfl (by decide +kernel) ?_
      refine v_getIN C 1 0 rfl nin_1 (ns_kd_lt hk_b22 (by decide)) hk_b22 (by decide) (by decide) rfl 147 tw_45 rfl 53 rfl (by decide +kernel) ?_
      refine v_icmp_ge C 71 56 rfl (by decide +kernel) (fun h23 => ?_) (fun h23 => ?_)
      · have hf := ite2_t hf h23
        refine v_aload_n C 3 2 rfl 72 rfl (by decide +kernel) ?_
        refine v_getIN C 2 2 rfl nin_2 (ns_kd_lt hk_a3 (by decide)) hk_a3 (by decide) (by decide) rfl 179 tw_93 rfl 75 rfl (by decide +kernel) ?_
        obtain ⟨rfl, rfl⟩ := ret_e hf
        exact v_iret C hr (by decide +kernel)
      · have hf := ite2_f hf h23
        refine v_aload_n C 0 0 rfl 57 rfl (by decide +kernel) ?_
        obtain ⟨b24, hb24, hf⟩ := drf_e hf
        obtain ⟨hk_b24, hf⟩ := grd_e hf
        refine v_getR C 8 0 hb24 rfl nin_8 (ns_kd_lt hk_a0 (by decide)) hk_a0 (by decide) (by decide) rfl 12 tw_287 rfl 60 rfl (by decide +kernel) ?_
        refine v_aload_n C 3 2 rfl 61 rfl (by decide +kernel) ?_
        refine v_iconst C (0) (0) (by decide) 62 rfl (by decide +kernel) ?_
        obtain ⟨r26, σ25, hcr26, hf⟩ := cl2_e hf
        refine v_cVN C 7 rfl (ns_kd_lt hk_b24 (by decide)) hk_b24 (by decide) [.ref (G.1 + a3), .int (0 : Int32)] [] (c_World_stepInTruth G l σ b24 a3 (0 : Int32) hcr26) 315 2 tw_915 tw_912 tw_914 ts_67 tw_2 hd_World_stepInTruth rfl ⟨(Nat.le_of_ble_eq_true rfl), (Nat.le_of_ble_eq_true rfl)⟩ ⟨(Nat.le_of_ble_eq_true rfl), (Nat.le_of_ble_eq_true rfl)⟩ (Nat.le_of_ble_eq_true rfl) rfl 65 rfl (by decide +kernel) [] rfl ?_
        obtain ⟨z27, hz27, hf⟩ := bnd_e hf
        refine v_iinc C 4 (1) 3 z27 rfl (by rw [hz27]; rfl) [(4, .int z27), (0, .ref (G.1 + a0)), (2, .int x2), (3, .ref (G.1 + a3))] (by decide) rfl 68 rfl (by decide +kernel) ?_
        refine v_goto C 33 (by decide +kernel) ?_
        refine v_sub [1, 2, 3, 0] rfl ?_
        exact ih σ25 a0 x2 a3 z27 hk_a0 hk_a3 hf
theorem c_N_goes (G : ns_G) (l : Launch) (σ : ns_St) (a0 : Nat) (x1 : Int32) (x2 : Int32) {r : Int32} {σ' : ns_St} (hf : g_N_goes σ a0 x1 x2 = some (r, σ')) : ns_ok G l ⟨"NinthStep", "goes", "(II)I"⟩ prog_1_method_39_code 5 (some .int) 3 67 0 0 [.ref (G.1 + a0), .int x1, .int x2] ns_N σ (some (.int r)) ns_N σ' := by
  refine v_open (by decide) (Nat.le_of_ble_eq_true rfl) rfl ?_
  intro p e s m below meth c C hr _
  have C : ns_Cx G p s m _ meth c prog_1_method_39_code "NinthStep" 5 := C
  unfold g_N_goes at hf
  obtain ⟨hk_a0, hf⟩ := grd_e hf
  refine v_aload_n C 0 0 rfl 1 rfl (by decide +kernel) ?_
  obtain ⟨b28, hb28, hf⟩ := drf_e hf
  obtain ⟨hk_b28, hf⟩ := grd_e hf
  refine v_getR C 8 0 hb28 rfl nin_8 (ns_kd_lt hk_a0 (by decide)) hk_a0 (by decide) (by decide) rfl 12 tw_287 rfl 4 rfl (by decide +kernel) ?_
  refine v_iload_n C 1 1 rfl 5 rfl (by decide +kernel) ?_
  obtain ⟨r30, σ29, hcr30, hf⟩ := cl2_e hf
  rcases r30 with _ | b31
  · have hf := onul_n hf
    refine v_cVN C 7 rfl (ns_kd_lt hk_b28 (by decide)) hk_b28 (by decide) [.int x1] [] (c_World_muleAt G l σ b28 x1 hcr30) 120 1 tw_390 tw_387 tw_389 ts_7 tw_2 hd_World_muleAt rfl ⟨(Nat.le_of_ble_eq_true rfl), (Nat.le_of_ble_eq_true rfl)⟩ ⟨(Nat.le_of_ble_eq_true rfl), (Nat.le_of_ble_eq_true rfl)⟩ (Nat.le_of_ble_eq_true rfl) rfl 8 rfl (by decide +kernel) [.null] rfl ?_
    refine v_astore_nN C 3 [(3, .null), (0, .ref (G.1 + a0)), (1, .int x1), (2, .int x2)] (by decide) rfl 9 rfl (by decide +kernel) ?_
    refine v_aload_nN C 3 0 rfl 10 rfl (by decide +kernel) ?_
    refine v_ifnullN C 23 (by decide +kernel) ?_
    refine v_aload_n C 0 1 rfl 24 rfl (by decide +kernel) ?_
    refine v_bipush C (-2) (-2) (by decide) 26 rfl (by decide +kernel) ?_
    obtain ⟨r33, σ32, hcr33, hf⟩ := cl2_e hf
    refine v_cV C 8 rfl (ns_kd_lt hk_a0 (by decide)) hk_a0 (by decide) [.int (-2 : Int32)] [] (c_N_refuse G l σ29 a0 (-2 : Int32) hcr33) 79 1 tw_338 tw_335 tw_337 ts_1 tw_1 hd_N_refuse rfl ⟨(Nat.le_of_ble_eq_true rfl), (Nat.le_of_ble_eq_true rfl)⟩ ⟨(Nat.le_of_ble_eq_true rfl), (Nat.le_of_ble_eq_true rfl)⟩ (Nat.le_of_ble_eq_true rfl) rfl 29 rfl (by decide +kernel) [.int r33] rfl ?_
    obtain ⟨rfl, rfl⟩ := ret_e hf
    exact v_iret C hr (by decide +kernel)
  · have hf := onul_s hf
    obtain ⟨hk_b31, hf⟩ := grd_e hf
    refine v_cVN C 7 rfl (ns_kd_lt hk_b28 (by decide)) hk_b28 (by decide) [.int x1] [] (c_World_muleAt G l σ b28 x1 hcr30) 120 1 tw_390 tw_387 tw_389 ts_7 tw_2 hd_World_muleAt rfl ⟨(Nat.le_of_ble_eq_true rfl), (Nat.le_of_ble_eq_true rfl)⟩ ⟨(Nat.le_of_ble_eq_true rfl), (Nat.le_of_ble_eq_true rfl)⟩ (Nat.le_of_ble_eq_true rfl) rfl 8 rfl (by decide +kernel) [.ref (G.1 + b31)] rfl ?_
    refine v_astore_n C 3 [(3, .ref (G.1 + b31)), (0, .ref (G.1 + a0)), (1, .int x1), (2, .int x2)] (by decide) rfl 9 rfl (by decide +kernel) ?_
    refine v_aload_n C 3 0 rfl 10 rfl (by decide +kernel) ?_
    refine v_ifnull C 23 13 rfl (by decide +kernel) ?_
    refine v_iload_n C 2 3 rfl 14 rfl (by decide +kernel) ?_
    refine v_iconst C (1) (1) (by decide) 15 rfl (by decide +kernel) ?_
    refine v_bipush C (60) (60) (by decide) 17 rfl (by decide +kernel) ?_
    obtain ⟨r35, σ34, hcr35, hf⟩ := cl2_e hf
    refine v_cS C [.int x2, .int (1 : Int32), .int (60 : Int32)] [] (c_N_isWithin G l σ29 x2 (1 : Int32) (60 : Int32) hcr35) 75 3 tw_334 tw_332 tw_333 tw_1 hd_N_isWithin rfl ⟨(Nat.le_of_ble_eq_true rfl), (Nat.le_of_ble_eq_true rfl)⟩ ⟨(Nat.le_of_ble_eq_true rfl), (Nat.le_of_ble_eq_true rfl)⟩ (Nat.le_of_ble_eq_true rfl) rfl 20 rfl (by decide +kernel) [.int r35] rfl ?_
    refine v_if_ne C 30 23 rfl (by decide +kernel) (fun h36 => ?_) (fun h36 => ?_)
    · have hf := ite2_f hf h36
      refine v_iconst C (0) (0) (by decide) 31 rfl (by decide +kernel) ?_
      refine v_istore C 4 [(4, .int (0 : Int32)), (3, .ref (G.1 + b31)), (0, .ref (G.1 + a0)), (1, .int x1), (2, .int x2)] (by decide) rfl 33 rfl (by decide +kernel) ?_
      refine v_sub [2, 4, 1, 0] rfl ?_
      exact t_N_goes_33 G l C hr  ns_F σ34 a0 x2 b31 (0 : Int32) hk_a0 hk_b31 hf
    · have hf := ite2_t hf h36
      refine v_aload_n C 0 1 rfl 24 rfl (by decide +kernel) ?_
      refine v_bipush C (-2) (-2) (by decide) 26 rfl (by decide +kernel) ?_
      obtain ⟨r38, σ37, hcr38, hf⟩ := cl2_e hf
      refine v_cV C 8 rfl (ns_kd_lt hk_a0 (by decide)) hk_a0 (by decide) [.int (-2 : Int32)] [] (c_N_refuse G l σ34 a0 (-2 : Int32) hcr38) 79 1 tw_338 tw_335 tw_337 ts_1 tw_1 hd_N_refuse rfl ⟨(Nat.le_of_ble_eq_true rfl), (Nat.le_of_ble_eq_true rfl)⟩ ⟨(Nat.le_of_ble_eq_true rfl), (Nat.le_of_ble_eq_true rfl)⟩ (Nat.le_of_ble_eq_true rfl) rfl 29 rfl (by decide +kernel) [.int r38] rfl ?_
      obtain ⟨rfl, rfl⟩ := ret_e hf
      exact v_iret C hr (by decide +kernel)
theorem hd_N_goes : (⟨"NinthStep", "goes", "(II)I"⟩ : MethodName).cls = "NinthStep" ∧ (⟨"NinthStep", "goes", "(II)I"⟩ : MethodName).cls ≠ "java/lang/invoke/MethodHandle" ∧ (⟨"NinthStep", "goes", "(II)I"⟩ : MethodName).cls ≠ "java/lang/invoke/VarHandle" ∧ (parseMethodDescriptor (⟨"NinthStep", "goes", "(II)I"⟩ : MethodName).desc).map (fun d => d.parameters.length) = some 2 := by decide +kernel
def g_World_turnInTruth (σ : ns_St) (a0 : Nat) (a1 : Nat) : Option (Int32 × ns_St) := grd (ns_kd a0 = 7) <| grd (ns_kd a1 = 2) <| drf (σ.2.2 a0 0) fun b9 => grd (ns_kd b9 = 1) <| cl2 (g_Mule_makeTurn σ a1 b9) fun r11 σ10 => ite2 (r11 = 0) (grd (r11 = 0 ∨ r11 = 1) <| some (r11, σ10)) (cl2 (g_World_restInTruth σ10 a0 a1) fun r15 σ14 => grd (r11 = 0 ∨ r11 = 1) <| some (r11, σ14))
theorem c_World_turnInTruth (G : ns_G) (l : Launch) (σ : ns_St) (a0 : Nat) (a1 : Nat) {r : Int32} {σ' : ns_St} (hf : g_World_turnInTruth σ a0 a1 = some (r, σ')) : ns_ok G l ⟨"NinthStep$World", "turnInTruth", "(LNinthStep$Mule;)Z"⟩ prog_9_method_6_code 3 (some .boolean) 2 43 0 0 [.ref (G.1 + a0), .ref (G.1 + a1)] ns_N σ (some (.int r)) ns_N σ' := by
  refine v_open (by decide) (Nat.le_of_ble_eq_true rfl) rfl ?_
  intro p e s m below meth c C hr _
  have C : ns_Cx G p s m _ meth c prog_9_method_6_code "NinthStep$World" 3 := C
  unfold g_World_turnInTruth at hf
  obtain ⟨hk_a0, hf⟩ := grd_e hf
  obtain ⟨hk_a1, hf⟩ := grd_e hf
  refine v_aload_n C 1 1 rfl 1 rfl (by decide +kernel) ?_
  refine v_aload_n C 0 0 rfl 2 rfl (by decide +kernel) ?_
  obtain ⟨b9, hb9, hf⟩ := drf_e hf
  obtain ⟨hk_b9, hf⟩ := grd_e hf
  refine v_getR C 7 0 hb9 rfl nin_7 (ns_kd_lt hk_a0 (by decide)) hk_a0 (by decide) (by decide) rfl 12 tw_125 rfl 5 rfl (by decide +kernel) ?_
  obtain ⟨r11, σ10, hcr11, hf⟩ := cl2_e hf
  refine v_cVN C 2 rfl (ns_kd_lt hk_a1 (by decide)) hk_a1 (by decide) [.ref (G.1 + b9)] [] (c_Mule_makeTurn G l σ a1 b9 hcr11) 52 1 tw_741 tw_930 tw_740 ts_43 tw_4 hd_Mule_makeTurn rfl ⟨(Nat.le_of_ble_eq_true rfl), (Nat.le_of_ble_eq_true rfl)⟩ ⟨(Nat.le_of_ble_eq_true rfl), (Nat.le_of_ble_eq_true rfl)⟩ (Nat.le_of_ble_eq_true rfl) rfl 8 rfl (by decide +kernel) [.int r11] rfl ?_
  refine v_istore_n C 2 [(2, .int r11), (0, .ref (G.1 + a0)), (1, .ref (G.1 + a1))] (by decide) rfl 9 rfl (by decide +kernel) ?_
  refine v_iload_n C 2 0 rfl 10 rfl (by decide +kernel) ?_
  refine v_if_eq C 18 13 rfl (by decide +kernel) (fun h12 => ?_) (fun h12 => ?_)
  · have hf := ite2_t hf h12
    refine v_iload_n C 2 0 rfl 19 rfl (by decide +kernel) ?_
    obtain ⟨hz13, hf⟩ := grd_e hf
    obtain ⟨rfl, rfl⟩ := ret_e hf
    exact v_zret C hr (ns_z01 hz13) (by decide +kernel)
  · have hf := ite2_f hf h12
    refine v_aload_n C 0 1 rfl 14 rfl (by decide +kernel) ?_
    refine v_aload_n C 1 2 rfl 15 rfl (by decide +kernel) ?_
    obtain ⟨r15, σ14, hcr15, hf⟩ := cl2_e hf
    refine v_cV C 7 rfl (ns_kd_lt hk_a0 (by decide)) hk_a0 (by decide) [.ref (G.1 + a1)] [] (c_World_restInTruth G l σ10 a0 a1 hcr15) 49 1 tw_920 tw_917 tw_919 ts_68 tw_2 hd_World_restInTruth rfl ⟨(Nat.le_of_ble_eq_true rfl), (Nat.le_of_ble_eq_true rfl)⟩ ⟨(Nat.le_of_ble_eq_true rfl), (Nat.le_of_ble_eq_true rfl)⟩ (Nat.le_of_ble_eq_true rfl) rfl 18 rfl (by decide +kernel) [] rfl ?_
    refine v_iload_n C 2 0 rfl 19 rfl (by decide +kernel) ?_
    obtain ⟨hz16, hf⟩ := grd_e hf
    obtain ⟨rfl, rfl⟩ := ret_e hf
    exact v_zret C hr (ns_z01 hz16) (by decide +kernel)
theorem hd_World_turnInTruth : (⟨"NinthStep$World", "turnInTruth", "(LNinthStep$Mule;)Z"⟩ : MethodName).cls = "NinthStep$World" ∧ (⟨"NinthStep$World", "turnInTruth", "(LNinthStep$Mule;)Z"⟩ : MethodName).cls ≠ "java/lang/invoke/MethodHandle" ∧ (⟨"NinthStep$World", "turnInTruth", "(LNinthStep$Mule;)Z"⟩ : MethodName).cls ≠ "java/lang/invoke/VarHandle" ∧ (parseMethodDescriptor (⟨"NinthStep$World", "turnInTruth", "(LNinthStep$Mule;)Z"⟩ : MethodName).desc).map (fun d => d.parameters.length) = some 1 := by decide +kernel
def g_N_turn (σ : ns_St) (a0 : Nat) (x1 : Int32) : Option (Int32 × ns_St) := grd (ns_kd a0 = 8) <| drf (σ.2.2 a0 0) fun b16 => grd (ns_kd b16 = 7) <| cl2 (g_World_muleAt σ b16 x1) fun r18 σ17 => onul r18 (cl2 (g_N_refuse σ17 a0 (-2 : Int32)) fun r21 σ20 => some (r21, σ20)) (fun b19 => grd (ns_kd b19 = 2) <| drf (σ17.2.2 a0 0) fun b22 => grd (ns_kd b22 = 7) <| drf (σ17.2.2 b22 0) fun b23 => grd (ns_kd b23 = 1) <| ite2 ((σ17.1 b19 2) < (σ17.1 b23 0)) (drf (σ17.2.2 a0 0) fun b25 => grd (ns_kd b25 = 7) <| cl2 (g_World_turnInTruth σ17 b25 b19) fun r27 σ26 => ite2 (r27 = 0) (some ((0 : Int32), σ26)) (some ((1 : Int32), σ26))) (cl2 (g_N_refuse σ17 a0 (-5 : Int32)) fun r30 σ29 => some (r30, σ29)))
theorem c_N_turn (G : ns_G) (l : Launch) (σ : ns_St) (a0 : Nat) (x1 : Int32) {r : Int32} {σ' : ns_St} (hf : g_N_turn σ a0 x1 = some (r, σ')) : ns_ok G l ⟨"NinthStep", "turn", "(I)I"⟩ prog_1_method_40_code 3 (some .int) 3 65 0 0 [.ref (G.1 + a0), .int x1] ns_N σ (some (.int r)) ns_N σ' := by
  refine v_open (by decide) (Nat.le_of_ble_eq_true rfl) rfl ?_
  intro p e s m below meth c C hr _
  have C : ns_Cx G p s m _ meth c prog_1_method_40_code "NinthStep" 3 := C
  unfold g_N_turn at hf
  obtain ⟨hk_a0, hf⟩ := grd_e hf
  refine v_aload_n C 0 0 rfl 1 rfl (by decide +kernel) ?_
  obtain ⟨b16, hb16, hf⟩ := drf_e hf
  obtain ⟨hk_b16, hf⟩ := grd_e hf
  refine v_getR C 8 0 hb16 rfl nin_8 (ns_kd_lt hk_a0 (by decide)) hk_a0 (by decide) (by decide) rfl 12 tw_287 rfl 4 rfl (by decide +kernel) ?_
  refine v_iload_n C 1 1 rfl 5 rfl (by decide +kernel) ?_
  obtain ⟨r18, σ17, hcr18, hf⟩ := cl2_e hf
  rcases r18 with _ | b19
  · have hf := onul_n hf
    refine v_cVN C 7 rfl (ns_kd_lt hk_b16 (by decide)) hk_b16 (by decide) [.int x1] [] (c_World_muleAt G l σ b16 x1 hcr18) 120 1 tw_390 tw_387 tw_389 ts_7 tw_2 hd_World_muleAt rfl ⟨(Nat.le_of_ble_eq_true rfl), (Nat.le_of_ble_eq_true rfl)⟩ ⟨(Nat.le_of_ble_eq_true rfl), (Nat.le_of_ble_eq_true rfl)⟩ (Nat.le_of_ble_eq_true rfl) rfl 8 rfl (by decide +kernel) [.null] rfl ?_
    refine v_astore_nN C 2 [(2, .null), (0, .ref (G.1 + a0)), (1, .int x1)] (by decide) rfl 9 rfl (by decide +kernel) ?_
    refine v_aload_nN C 2 0 rfl 10 rfl (by decide +kernel) ?_
    refine v_ifnonnullN C 20 13 rfl (by decide +kernel) ?_
    refine v_aload_n C 0 1 rfl 14 rfl (by decide +kernel) ?_
    refine v_bipush C (-2) (-2) (by decide) 16 rfl (by decide +kernel) ?_
    obtain ⟨r21, σ20, hcr21, hf⟩ := cl2_e hf
    refine v_cV C 8 rfl (ns_kd_lt hk_a0 (by decide)) hk_a0 (by decide) [.int (-2 : Int32)] [] (c_N_refuse G l σ17 a0 (-2 : Int32) hcr21) 79 1 tw_338 tw_335 tw_337 ts_1 tw_1 hd_N_refuse rfl ⟨(Nat.le_of_ble_eq_true rfl), (Nat.le_of_ble_eq_true rfl)⟩ ⟨(Nat.le_of_ble_eq_true rfl), (Nat.le_of_ble_eq_true rfl)⟩ (Nat.le_of_ble_eq_true rfl) rfl 19 rfl (by decide +kernel) [.int r21] rfl ?_
    obtain ⟨rfl, rfl⟩ := ret_e hf
    exact v_iret C hr (by decide +kernel)
  · have hf := onul_s hf
    obtain ⟨hk_b19, hf⟩ := grd_e hf
    refine v_cVN C 7 rfl (ns_kd_lt hk_b16 (by decide)) hk_b16 (by decide) [.int x1] [] (c_World_muleAt G l σ b16 x1 hcr18) 120 1 tw_390 tw_387 tw_389 ts_7 tw_2 hd_World_muleAt rfl ⟨(Nat.le_of_ble_eq_true rfl), (Nat.le_of_ble_eq_true rfl)⟩ ⟨(Nat.le_of_ble_eq_true rfl), (Nat.le_of_ble_eq_true rfl)⟩ (Nat.le_of_ble_eq_true rfl) rfl 8 rfl (by decide +kernel) [.ref (G.1 + b19)] rfl ?_
    refine v_astore_n C 2 [(2, .ref (G.1 + b19)), (0, .ref (G.1 + a0)), (1, .int x1)] (by decide) rfl 9 rfl (by decide +kernel) ?_
    refine v_aload_n C 2 0 rfl 10 rfl (by decide +kernel) ?_
    refine v_ifnonnull C 20 (by decide +kernel) ?_
    refine v_aload_n C 2 0 rfl 21 rfl (by decide +kernel) ?_
    refine v_getIN C 2 2 rfl nin_2 (ns_kd_lt hk_b19 (by decide)) hk_b19 (by decide) (by decide) rfl 179 tw_93 rfl 24 rfl (by decide +kernel) ?_
    refine v_aload_n C 0 1 rfl 25 rfl (by decide +kernel) ?_
    obtain ⟨b22, hb22, hf⟩ := drf_e hf
    obtain ⟨hk_b22, hf⟩ := grd_e hf
    refine v_getR C 8 0 hb22 rfl nin_8 (ns_kd_lt hk_a0 (by decide)) hk_a0 (by decide) (by decide) rfl 12 tw_287 rfl 28 rfl (by decide +kernel) ?_
    obtain ⟨b23, hb23, hf⟩ := drf_e hf
    obtain ⟨hk_b23, hf⟩ := grd_e hf
    refine v_getRN C 7 0 hb23 rfl nin_7 (ns_kd_lt hk_b22 (by decide)) hk_b22 (by decide) (by decide) rfl 138 tw_128 rfl 31 rfl (by decide +kernel) ?_
    refine v_getIN C 1 0 rfl nin_1 (ns_kd_lt hk_b23 (by decide)) hk_b23 (by decide) (by decide) rfl 147 tw_45 rfl 34 rfl (by decide +kernel) ?_
    refine v_icmp_lt C 44 37 rfl (by decide +kernel) (fun h24 => ?_) (fun h24 => ?_)
    · have hf := ite2_t hf h24
      refine v_aload_n C 0 1 rfl 45 rfl (by decide +kernel) ?_
      obtain ⟨b25, hb25, hf⟩ := drf_e hf
      obtain ⟨hk_b25, hf⟩ := grd_e hf
      refine v_getR C 8 0 hb25 rfl nin_8 (ns_kd_lt hk_a0 (by decide)) hk_a0 (by decide) (by decide) rfl 12 tw_287 rfl 48 rfl (by decide +kernel) ?_
      refine v_aload_n C 2 0 rfl 49 rfl (by decide +kernel) ?_
      obtain ⟨r27, σ26, hcr27, hf⟩ := cl2_e hf
      refine v_cVN C 7 rfl (ns_kd_lt hk_b25 (by decide)) hk_b25 (by decide) [.ref (G.1 + b19)] [] (c_World_turnInTruth G l σ17 b25 b19 hcr27) 319 1 tw_929 tw_926 tw_928 ts_69 tw_2 hd_World_turnInTruth rfl ⟨(Nat.le_of_ble_eq_true rfl), (Nat.le_of_ble_eq_true rfl)⟩ ⟨(Nat.le_of_ble_eq_true rfl), (Nat.le_of_ble_eq_true rfl)⟩ (Nat.le_of_ble_eq_true rfl) rfl 52 rfl (by decide +kernel) [.int r27] rfl ?_
      refine v_if_eq C 59 55 rfl (by decide +kernel) (fun h28 => ?_) (fun h28 => ?_)
      · have hf := ite2_t hf h28
        refine v_iconst C (0) (0) (by decide) 60 rfl (by decide +kernel) ?_
        obtain ⟨rfl, rfl⟩ := ret_e hf
        exact v_iret C hr (by decide +kernel)
      · have hf := ite2_f hf h28
        refine v_iconst C (1) (1) (by decide) 56 rfl (by decide +kernel) ?_
        refine v_goto C 60 (by decide +kernel) ?_
        obtain ⟨rfl, rfl⟩ := ret_e hf
        exact v_iret C hr (by decide +kernel)
    · have hf := ite2_f hf h24
      refine v_aload_n C 0 1 rfl 38 rfl (by decide +kernel) ?_
      refine v_bipush C (-5) (-5) (by decide) 40 rfl (by decide +kernel) ?_
      obtain ⟨r30, σ29, hcr30, hf⟩ := cl2_e hf
      refine v_cV C 8 rfl (ns_kd_lt hk_a0 (by decide)) hk_a0 (by decide) [.int (-5 : Int32)] [] (c_N_refuse G l σ17 a0 (-5 : Int32) hcr30) 79 1 tw_338 tw_335 tw_337 ts_1 tw_1 hd_N_refuse rfl ⟨(Nat.le_of_ble_eq_true rfl), (Nat.le_of_ble_eq_true rfl)⟩ ⟨(Nat.le_of_ble_eq_true rfl), (Nat.le_of_ble_eq_true rfl)⟩ (Nat.le_of_ble_eq_true rfl) rfl 43 rfl (by decide +kernel) [.int r30] rfl ?_
      obtain ⟨rfl, rfl⟩ := ret_e hf
      exact v_iret C hr (by decide +kernel)
theorem hd_N_turn : (⟨"NinthStep", "turn", "(I)I"⟩ : MethodName).cls = "NinthStep" ∧ (⟨"NinthStep", "turn", "(I)I"⟩ : MethodName).cls ≠ "java/lang/invoke/MethodHandle" ∧ (⟨"NinthStep", "turn", "(I)I"⟩ : MethodName).cls ≠ "java/lang/invoke/VarHandle" ∧ (parseMethodDescriptor (⟨"NinthStep", "turn", "(I)I"⟩ : MethodName).desc).map (fun d => d.parameters.length) = some 1 := by decide +kernel
def g_World_draw (σ : ns_St) (a0 : Nat) (x1 : Int32) : Option (Int32 × ns_St) := grd (ns_kd a0 = 7) <| bnd (ns_pI σ a0 5 (((σ.1 a0 5) * (1103515245 : Int32)) + (12345 : Int32))) fun σ4 => ite2 (x1 ≤ 0) (some ((0 : Int32), σ4)) (grd (¬ x1 = 0) <| some (((((σ4.1 a0 5).toUInt32 >>> ((16 : Int32).toUInt32 &&& Int32.toUInt32 31)).toInt32) - (((σ4.1 a0 5).toUInt32 >>> ((16 : Int32).toUInt32 &&& Int32.toUInt32 31)).toInt32) / x1 * x1), σ4))
theorem c_World_draw (G : ns_G) (l : Launch) (σ : ns_St) (a0 : Nat) (x1 : Int32) {r : Int32} {σ' : ns_St} (hf : g_World_draw σ a0 x1 = some (r, σ')) : ns_ok G l ⟨"NinthStep$World", "draw", "(I)I"⟩ prog_9_method_9_code 2 (some .int) 0 0 0 0 [.ref (G.1 + a0), .int x1] ns_N σ (some (.int r)) ns_N σ' := by
  refine v_open (by decide) (Nat.le_of_ble_eq_true rfl) rfl ?_
  intro p e s m below meth c C hr _
  have C : ns_Cx G p s m _ meth c prog_9_method_9_code "NinthStep$World" 2 := C
  unfold g_World_draw at hf
  obtain ⟨hk_a0, hf⟩ := grd_e hf
  refine v_aload_n C 0 0 rfl 1 rfl (by decide +kernel) ?_
  refine v_aload_n C 0 0 rfl 2 rfl (by decide +kernel) ?_
  refine v_getI C 7 5 rfl nin_7 (ns_kd_lt hk_a0 (by decide)) hk_a0 (by decide) (by decide) rfl 24 tw_140 rfl 5 rfl (by decide +kernel) ?_
  refine v_ldc C 84 (1103515245) tw_943 7 rfl (by decide +kernel) ?_
  refine v_imul C 8 rfl (by decide +kernel) ?_
  refine v_sipush C (12345) (12345) (by decide) 11 rfl (by decide +kernel) ?_
  refine v_iadd C 12 rfl (by decide +kernel) ?_
  obtain ⟨σ4, hσ4, hf⟩ := bnd_e hf
  refine v_putI C 7 5 hσ4 rfl nin_7 ny_7 nty_7 nnm_7 (ns_kd_lt hk_a0 (by decide)) hk_a0 (by decide) (by decide) rfl rfl rfl rfl 24 tw_140 rfl 15 rfl (by decide +kernel) ?_
  refine v_iload_n C 1 1 rfl 16 rfl (by decide +kernel) ?_
  refine v_if_le C 31 19 rfl (by decide +kernel) (fun h5 => ?_) (fun h5 => ?_)
  · have hf := ite2_t hf h5
    refine v_iconst C (0) (0) (by decide) 32 rfl (by decide +kernel) ?_
    obtain ⟨rfl, rfl⟩ := ret_e hf
    exact v_iret C hr (by decide +kernel)
  · have hf := ite2_f hf h5
    refine v_aload_n C 0 0 rfl 20 rfl (by decide +kernel) ?_
    refine v_getI C 7 5 rfl nin_7 (ns_kd_lt hk_a0 (by decide)) hk_a0 (by decide) (by decide) rfl 24 tw_140 rfl 23 rfl (by decide +kernel) ?_
    refine v_bipush C (16) (16) (by decide) 25 rfl (by decide +kernel) ?_
    refine v_iushr C 26 rfl (by decide +kernel) ?_
    refine v_iload_n C 1 1 rfl 27 rfl (by decide +kernel) ?_
    obtain ⟨hd6, hf⟩ := grd_e hf
    refine v_irem C hd6 28 rfl (by decide +kernel) ?_
    refine v_goto C 32 (by decide +kernel) ?_
    obtain ⟨rfl, rfl⟩ := ret_e hf
    exact v_iret C hr (by decide +kernel)
theorem hd_World_draw : (⟨"NinthStep$World", "draw", "(I)I"⟩ : MethodName).cls = "NinthStep$World" ∧ (⟨"NinthStep$World", "draw", "(I)I"⟩ : MethodName).cls ≠ "java/lang/invoke/MethodHandle" ∧ (⟨"NinthStep$World", "draw", "(I)I"⟩ : MethodName).cls ≠ "java/lang/invoke/VarHandle" ∧ (parseMethodDescriptor (⟨"NinthStep$World", "draw", "(I)I"⟩ : MethodName).desc).map (fun d => d.parameters.length) = some 1 := by decide +kernel
def g_World_slipToEnd_37 (kh5 : ns_St → Nat → Nat → Int32 → Option (Unit × ns_St)) (σ : ns_St) (s0 : Nat) (s1 : Nat) (s2 : Int32) (a0 : Nat) (a1 : Nat) (x2 : Int32) : Option (Unit × ns_St) := cl2 (g_World_stepInTruth σ s0 s1 s2) fun r11 σ10 => bnd (x2 + 1) fun z12 => kh5 σ10 a0 a1 z12
def g_World_slipToEnd_5  : Nat → ns_St → Nat → Nat → Int32 → Option (Unit × ns_St)
  | 0, _, _, _, _ => none
  | f + 1, σ, a0, a1, x2 => drf (σ.2.2 a0 0) fun b13 => grd (ns_kd b13 = 1) <| ite2 ((σ.1 b13 0) ≤ x2) (some ((), σ)) (cl2 (g_World_draw σ a0 (1000 : Int32)) fun r16 σ15 => ite2 ((σ15.1 a0 3) ≤ r16) (g_World_slipToEnd_37 (g_World_slipToEnd_5 f) σ15 a0 a1 (0 : Int32) a0 a1 x2) (g_World_slipToEnd_37 (g_World_slipToEnd_5 f) σ15 a0 a1 (1 : Int32) a0 a1 x2))
def g_World_slipToEnd (σ : ns_St) (a0 : Nat) (a1 : Nat) : Option (Unit × ns_St) := grd (ns_kd a0 = 7) <| grd (ns_kd a1 = 2) <| bnd (σ.1 a1 2) fun z18 => g_World_slipToEnd_5 ns_F σ a0 a1 z18
theorem t_World_slipToEnd_37 (G : ns_G) (l : Launch) {p : Program} {e : Env} {s : State} {m : MethodId} {args : Array Value} {below : List Frame} {meth : Method} {c : Code} (C : ns_Cx G p s m args meth c prog_9_method_8_code "NinthStep$World" 3) (hr : meth.sig.returnType = none) {r : Unit} {σ' : ns_St} {kh5 : ns_St → Nat → Nat → Int32 → Option (Unit × ns_St)} (hkh5 : ∀ (σ : ns_St) (a0 : Nat) (a1 : Nat) (x2 : Int32), ns_kd a0 = 7 → ns_kd a1 = 2 → kh5 σ a0 a1 x2 = some (r, σ') → VV G p l e { frames := 3, cells := 0, slots := 0, locals := 67 } s m args below meth c 3 0 0 (MQ below (ns_Qc G none ns_N σ') args s 0 0 (ns_A G)) ns_N σ 5 [(0, .ref (G.1 + a0)), (1, .ref (G.1 + a1)), (2, .int x2)] []) (σ : ns_St) (s0 : Nat) (s1 : Nat) (s2 : Int32) (a0 : Nat) (a1 : Nat) (x2 : Int32) (hk_s0 : ns_kd s0 = 7) (hk_s1 : ns_kd s1 = 2) (hk_a0 : ns_kd a0 = 7) (hk_a1 : ns_kd a1 = 2) (hf : g_World_slipToEnd_37 kh5 σ s0 s1 s2 a0 a1 x2 = some (r, σ')) : VV G p l e { frames := 3, cells := 0, slots := 0, locals := 67 } s m args below meth c 3 0 0 (MQ below (ns_Qc G none ns_N σ') args s 0 0 (ns_A G)) ns_N σ 37 [(0, .ref (G.1 + a0)), (1, .ref (G.1 + a1)), (2, .int x2)] [.int s2, .ref (G.1 + s1), .ref (G.1 + s0)] := by
  unfold g_World_slipToEnd_37 at hf
  obtain ⟨r11, σ10, hcr11, hf⟩ := cl2_e hf
  refine v_cV C 7 rfl (ns_kd_lt hk_s0 (by decide)) hk_s0 (by decide) [.ref (G.1 + s1), .int s2] [] (c_World_stepInTruth G l σ s0 s1 s2 hcr11) 80 2 tw_915 tw_944 tw_914 ts_67 tw_2 hd_World_stepInTruth rfl ⟨(Nat.le_of_ble_eq_true rfl), (Nat.le_of_ble_eq_true rfl)⟩ ⟨(Nat.le_of_ble_eq_true rfl), (Nat.le_of_ble_eq_true rfl)⟩ (Nat.le_of_ble_eq_true rfl) rfl 40 rfl (by decide +kernel) [] rfl ?_
  obtain ⟨z12, hz12, hf⟩ := bnd_e hf
  refine v_iinc C 2 (1) 2 z12 rfl (by rw [hz12]; rfl) [(2, .int z12), (0, .ref (G.1 + a0)), (1, .ref (G.1 + a1))] (by decide) rfl 43 rfl (by decide +kernel) ?_
  refine v_goto C 5 (by decide +kernel) ?_
  refine v_sub [1, 2, 0] rfl ?_
  exact hkh5 σ10 a0 a1 z12 hk_a0 hk_a1 hf
theorem t_World_slipToEnd_5 (G : ns_G) (l : Launch) {p : Program} {e : Env} {s : State} {m : MethodId} {args : Array Value} {below : List Frame} {meth : Method} {c : Code} (C : ns_Cx G p s m args meth c prog_9_method_8_code "NinthStep$World" 3) (hr : meth.sig.returnType = none) {r : Unit} {σ' : ns_St}  : ∀ (f : Nat) (σ : ns_St) (a0 : Nat) (a1 : Nat) (x2 : Int32) (hk_a0 : ns_kd a0 = 7) (hk_a1 : ns_kd a1 = 2), g_World_slipToEnd_5 f σ a0 a1 x2 = some (r, σ') → VV G p l e { frames := 3, cells := 0, slots := 0, locals := 67 } s m args below meth c 3 0 0 (MQ below (ns_Qc G none ns_N σ') args s 0 0 (ns_A G)) ns_N σ 5 [(0, .ref (G.1 + a0)), (1, .ref (G.1 + a1)), (2, .int x2)] [] := by
  intro f
  induction f with
  | zero =>
    intro σ a0 a1 x2 hk_a0 hk_a1 hf
    cases hf
  | succ f ih =>
    intro σ a0 a1 x2 hk_a0 hk_a1 hf
    rw [g_World_slipToEnd_5] at hf
    refine v_iload_n C 2 2 rfl 6 rfl (by decide +kernel) ?_
    refine v_aload_n C 0 0 rfl 7 rfl (by decide +kernel) ?_
    obtain ⟨b13, hb13, hf⟩ := drf_e hf
    obtain ⟨hk_b13, hf⟩ := grd_e hf
    refine v_getR C 7 0 hb13 rfl nin_7 (ns_kd_lt hk_a0 (by decide)) hk_a0 (by decide) (by decide) rfl 12 tw_125 rfl 10 rfl (by decide +kernel) ?_
    refine v_getIN C 1 0 rfl nin_1 (ns_kd_lt hk_b13 (by decide)) hk_b13 (by decide) (by decide) rfl 73 tw_44 rfl 13 rfl (by decide +kernel) ?_
    refine v_icmp_ge C 46 16 rfl (by decide +kernel) (fun h14 => ?_) (fun h14 => ?_)
    · have hf := ite2_t hf h14
      obtain ⟨rfl, rfl⟩ := ret_e hf
      exact v_vret C hr (by decide +kernel)
    · have hf := ite2_f hf h14
      refine v_aload_n C 0 0 rfl 17 rfl (by decide +kernel) ?_
      refine v_aload_n C 1 1 rfl 18 rfl (by decide +kernel) ?_
      refine v_aload_n C 0 0 rfl 19 rfl (by decide +kernel) ?_
      refine v_sipush C (1000) (1000) (by decide) 22 rfl (by decide +kernel) ?_
      obtain ⟨r16, σ15, hcr16, hf⟩ := cl2_e hf
      refine v_cV C 7 rfl (ns_kd_lt hk_a0 (by decide)) hk_a0 (by decide) [.int (1000 : Int32)] [.ref (G.1 + a1), .ref (G.1 + a0)] (c_World_draw G l σ a0 (1000 : Int32) hcr16) 76 1 tw_942 tw_939 tw_941 ts_71 tw_2 hd_World_draw rfl ⟨(Nat.le_of_ble_eq_true rfl), (Nat.le_of_ble_eq_true rfl)⟩ ⟨(Nat.le_of_ble_eq_true rfl), (Nat.le_of_ble_eq_true rfl)⟩ (Nat.le_of_ble_eq_true rfl) rfl 25 rfl (by decide +kernel) [.int r16, .ref (G.1 + a1), .ref (G.1 + a0)] rfl ?_
      refine v_aload_n C 0 0 rfl 26 rfl (by decide +kernel) ?_
      refine v_getI C 7 3 rfl nin_7 (ns_kd_lt hk_a0 (by decide)) hk_a0 (by decide) (by decide) rfl 39 tw_136 rfl 29 rfl (by decide +kernel) ?_
      refine v_icmp_ge C 36 32 rfl (by decide +kernel) (fun h17 => ?_) (fun h17 => ?_)
      · have hf := ite2_t hf h17
        refine v_iconst C (0) (0) (by decide) 37 rfl (by decide +kernel) ?_
        exact t_World_slipToEnd_37 G l C hr ih σ15 a0 a1 (0 : Int32) a0 a1 x2 hk_a0 hk_a1 hk_a0 hk_a1 hf
      · have hf := ite2_f hf h17
        refine v_iconst C (1) (1) (by decide) 33 rfl (by decide +kernel) ?_
        refine v_goto C 37 (by decide +kernel) ?_
        exact t_World_slipToEnd_37 G l C hr ih σ15 a0 a1 (1 : Int32) a0 a1 x2 hk_a0 hk_a1 hk_a0 hk_a1 hf
theorem c_World_slipToEnd (G : ns_G) (l : Launch) (σ : ns_St) (a0 : Nat) (a1 : Nat) {r : Unit} {σ' : ns_St} (hf : g_World_slipToEnd σ a0 a1 = some (r, σ')) : ns_ok G l ⟨"NinthStep$World", "slipToEnd", "(LNinthStep$Mule;)V"⟩ prog_9_method_8_code 3 none 3 67 0 0 [.ref (G.1 + a0), .ref (G.1 + a1)] ns_N σ none ns_N σ' := by
  refine v_open (by decide) (Nat.le_of_ble_eq_true rfl) rfl ?_
  intro p e s m below meth c C hr _
  have C : ns_Cx G p s m _ meth c prog_9_method_8_code "NinthStep$World" 3 := C
  unfold g_World_slipToEnd at hf
  obtain ⟨hk_a0, hf⟩ := grd_e hf
  obtain ⟨hk_a1, hf⟩ := grd_e hf
  refine v_aload_n C 1 1 rfl 1 rfl (by decide +kernel) ?_
  refine v_getIN C 2 2 rfl nin_2 (ns_kd_lt hk_a1 (by decide)) hk_a1 (by decide) (by decide) rfl 66 tw_91 rfl 4 rfl (by decide +kernel) ?_
  obtain ⟨z18, hz18, hf⟩ := bnd_e hf
  refine v_nmI hz18 ?_
  refine v_istore_n C 2 [(2, .int z18), (0, .ref (G.1 + a0)), (1, .ref (G.1 + a1))] (by decide) rfl 5 rfl (by decide +kernel) ?_
  refine v_sub [1, 2, 0] rfl ?_
  exact t_World_slipToEnd_5 G l C hr  ns_F σ a0 a1 z18 hk_a0 hk_a1 hf
theorem hd_World_slipToEnd : (⟨"NinthStep$World", "slipToEnd", "(LNinthStep$Mule;)V"⟩ : MethodName).cls = "NinthStep$World" ∧ (⟨"NinthStep$World", "slipToEnd", "(LNinthStep$Mule;)V"⟩ : MethodName).cls ≠ "java/lang/invoke/MethodHandle" ∧ (⟨"NinthStep$World", "slipToEnd", "(LNinthStep$Mule;)V"⟩ : MethodName).cls ≠ "java/lang/invoke/VarHandle" ∧ (parseMethodDescriptor (⟨"NinthStep$World", "slipToEnd", "(LNinthStep$Mule;)V"⟩ : MethodName).desc).map (fun d => d.parameters.length) = some 1 := by decide +kernel
def g_N_day_10  : Nat → ns_St → Nat → Int32 → Int32 → Option (Int32 × ns_St)
  | 0, _, _, _, _ => none
  | f + 1, σ, a0, x1, x2 => drf (σ.2.2 a0 0) fun b14 => grd (ns_kd b14 = 7) <| ite2 ((σ.1 b14 2) ≤ x2) (drf (σ.2.2 a0 0) fun b16 => grd (ns_kd b16 = 7) <| some (((σ.1 b16 4) - x1), σ)) (drf (σ.2.2 a0 0) fun b17 => grd (ns_kd b17 = 7) <| drf (σ.2.2 a0 0) fun b18 => grd (ns_kd b18 = 7) <| drf (σ.2.2 b18 1) fun b19 => grd (ns_kd b19 = 12) <| grd (ns_in x2 (ns_ln b19)) <| drf (σ.2.2 b19 (ns_ix x2)) fun b21 => grd (ns_kd b21 = 2) <| cl2 (g_World_slipToEnd σ b17 b21) fun r23 σ22 => bnd (x2 + 1) fun z24 => (g_N_day_10 f) σ22 a0 x1 z24)
def g_N_day (σ : ns_St) (a0 : Nat) : Option (Int32 × ns_St) := grd (ns_kd a0 = 8) <| drf (σ.2.2 a0 0) fun b25 => grd (ns_kd b25 = 7) <| bnd (σ.1 b25 4) fun z26 => g_N_day_10 ns_F σ a0 z26 (0 : Int32)
theorem t_N_day_10 (G : ns_G) (l : Launch) {p : Program} {e : Env} {s : State} {m : MethodId} {args : Array Value} {below : List Frame} {meth : Method} {c : Code} (C : ns_Cx G p s m args meth c prog_1_method_41_code "NinthStep" 3) (hr : meth.sig.returnType = (some .int)) {r : Int32} {σ' : ns_St}  : ∀ (f : Nat) (σ : ns_St) (a0 : Nat) (x1 : Int32) (x2 : Int32) (hk_a0 : ns_kd a0 = 8), g_N_day_10 f σ a0 x1 x2 = some (r, σ') → VV G p l e { frames := 4, cells := 0, slots := 0, locals := 89 } s m args below meth c 3 0 0 (MQ below (ns_Qc G (some (.int r)) ns_N σ') args s 0 0 (ns_A G)) ns_N σ 10 [(0, .ref (G.1 + a0)), (1, .int x1), (2, .int x2)] [] := by
  intro f
  induction f with
  | zero =>
    intro σ a0 x1 x2 hk_a0 hf
    cases hf
  | succ f ih =>
    intro σ a0 x1 x2 hk_a0 hf
    rw [g_N_day_10] at hf
    refine v_iload_n C 2 2 rfl 11 rfl (by decide +kernel) ?_
    refine v_aload_n C 0 0 rfl 12 rfl (by decide +kernel) ?_
    obtain ⟨b14, hb14, hf⟩ := drf_e hf
    obtain ⟨hk_b14, hf⟩ := grd_e hf
    refine v_getR C 8 0 hb14 rfl nin_8 (ns_kd_lt hk_a0 (by decide)) hk_a0 (by decide) (by decide) rfl 12 tw_287 rfl 15 rfl (by decide +kernel) ?_
    refine v_getIN C 7 2 rfl nin_7 (ns_kd_lt hk_b14 (by decide)) hk_b14 (by decide) (by decide) rfl 135 tw_135 rfl 18 rfl (by decide +kernel) ?_
    refine v_icmp_ge C 43 21 rfl (by decide +kernel) (fun h15 => ?_) (fun h15 => ?_)
    · have hf := ite2_t hf h15
      refine v_aload_n C 0 0 rfl 44 rfl (by decide +kernel) ?_
      obtain ⟨b16, hb16, hf⟩ := drf_e hf
      obtain ⟨hk_b16, hf⟩ := grd_e hf
      refine v_getR C 8 0 hb16 rfl nin_8 (ns_kd_lt hk_a0 (by decide)) hk_a0 (by decide) (by decide) rfl 12 tw_287 rfl 47 rfl (by decide +kernel) ?_
      refine v_getIN C 7 4 rfl nin_7 (ns_kd_lt hk_b16 (by decide)) hk_b16 (by decide) (by decide) rfl 323 tw_139 rfl 50 rfl (by decide +kernel) ?_
      refine v_iload_n C 1 1 rfl 51 rfl (by decide +kernel) ?_
      refine v_isub C 52 rfl (by decide +kernel) ?_
      obtain ⟨rfl, rfl⟩ := ret_e hf
      exact v_iret C hr (by decide +kernel)
    · have hf := ite2_f hf h15
      refine v_aload_n C 0 0 rfl 22 rfl (by decide +kernel) ?_
      obtain ⟨b17, hb17, hf⟩ := drf_e hf
      obtain ⟨hk_b17, hf⟩ := grd_e hf
      refine v_getR C 8 0 hb17 rfl nin_8 (ns_kd_lt hk_a0 (by decide)) hk_a0 (by decide) (by decide) rfl 12 tw_287 rfl 25 rfl (by decide +kernel) ?_
      refine v_aload_n C 0 0 rfl 26 rfl (by decide +kernel) ?_
      obtain ⟨b18, hb18, hf⟩ := drf_e hf
      obtain ⟨hk_b18, hf⟩ := grd_e hf
      refine v_getR C 8 0 hb18 rfl nin_8 (ns_kd_lt hk_a0 (by decide)) hk_a0 (by decide) (by decide) rfl 12 tw_287 rfl 29 rfl (by decide +kernel) ?_
      obtain ⟨b19, hb19, hf⟩ := drf_e hf
      obtain ⟨hk_b19, hf⟩ := grd_e hf
      refine v_getRN C 7 1 hb19 rfl nin_7 (ns_kd_lt hk_b18 (by decide)) hk_b18 (by decide) (by decide) rfl 266 tw_131 rfl 32 rfl (by decide +kernel) ?_
      refine v_iload_n C 2 2 rfl 33 rfl (by decide +kernel) ?_
      obtain ⟨hi20, hf⟩ := grd_e hf
      obtain ⟨b21, hb21, hf⟩ := drf_e hf
      obtain ⟨hk_b21, hf⟩ := grd_e hf
      refine v_aald C 12 (by decide) (ns_kd_lt hk_b19 (by decide)) hk_b19 hi20 hb21 34 rfl (by decide +kernel) ?_
      obtain ⟨r23, σ22, hcr23, hf⟩ := cl2_e hf
      refine v_cVN C 7 rfl (ns_kd_lt hk_b17 (by decide)) hk_b17 (by decide) [.ref (G.1 + b21)] [] (c_World_slipToEnd G l σ b17 b21 hcr23) 326 1 tw_938 tw_935 tw_937 ts_70 tw_2 hd_World_slipToEnd rfl ⟨(Nat.le_of_ble_eq_true rfl), (Nat.le_of_ble_eq_true rfl)⟩ ⟨(Nat.le_of_ble_eq_true rfl), (Nat.le_of_ble_eq_true rfl)⟩ (Nat.le_of_ble_eq_true rfl) rfl 37 rfl (by decide +kernel) [] rfl ?_
      obtain ⟨z24, hz24, hf⟩ := bnd_e hf
      refine v_iinc C 2 (1) 2 z24 rfl (by rw [hz24]; rfl) [(2, .int z24), (0, .ref (G.1 + a0)), (1, .int x1)] (by decide) rfl 40 rfl (by decide +kernel) ?_
      refine v_goto C 10 (by decide +kernel) ?_
      refine v_sub [1, 2, 0] rfl ?_
      exact ih σ22 a0 x1 z24 hk_a0 hf
theorem c_N_day (G : ns_G) (l : Launch) (σ : ns_St) (a0 : Nat) {r : Int32} {σ' : ns_St} (hf : g_N_day σ a0 = some (r, σ')) : ns_ok G l ⟨"NinthStep", "day", "()I"⟩ prog_1_method_41_code 3 (some .int) 4 89 0 0 [.ref (G.1 + a0)] ns_N σ (some (.int r)) ns_N σ' := by
  refine v_open (by decide) (Nat.le_of_ble_eq_true rfl) rfl ?_
  intro p e s m below meth c C hr _
  have C : ns_Cx G p s m _ meth c prog_1_method_41_code "NinthStep" 3 := C
  unfold g_N_day at hf
  obtain ⟨hk_a0, hf⟩ := grd_e hf
  refine v_aload_n C 0 0 rfl 1 rfl (by decide +kernel) ?_
  obtain ⟨b25, hb25, hf⟩ := drf_e hf
  obtain ⟨hk_b25, hf⟩ := grd_e hf
  refine v_getR C 8 0 hb25 rfl nin_8 (ns_kd_lt hk_a0 (by decide)) hk_a0 (by decide) (by decide) rfl 12 tw_287 rfl 4 rfl (by decide +kernel) ?_
  refine v_getIN C 7 4 rfl nin_7 (ns_kd_lt hk_b25 (by decide)) hk_b25 (by decide) (by decide) rfl 323 tw_139 rfl 7 rfl (by decide +kernel) ?_
  obtain ⟨z26, hz26, hf⟩ := bnd_e hf
  refine v_nmI hz26 ?_
  refine v_istore_n C 1 [(1, .int z26), (0, .ref (G.1 + a0))] (by decide) rfl 8 rfl (by decide +kernel) ?_
  refine v_iconst C (0) (0) (by decide) 9 rfl (by decide +kernel) ?_
  refine v_istore_n C 2 [(2, .int (0 : Int32)), (1, .int z26), (0, .ref (G.1 + a0))] (by decide) rfl 10 rfl (by decide +kernel) ?_
  refine v_sub [2, 1, 0] rfl ?_
  exact t_N_day_10 G l C hr  ns_F σ a0 z26 (0 : Int32) hk_a0 hf
theorem hd_N_day : (⟨"NinthStep", "day", "()I"⟩ : MethodName).cls = "NinthStep" ∧ (⟨"NinthStep", "day", "()I"⟩ : MethodName).cls ≠ "java/lang/invoke/MethodHandle" ∧ (⟨"NinthStep", "day", "()I"⟩ : MethodName).cls ≠ "java/lang/invoke/VarHandle" ∧ (parseMethodDescriptor (⟨"NinthStep", "day", "()I"⟩ : MethodName).desc).map (fun d => d.parameters.length) = some 0 := by decide +kernel
def g_N_home_35 (kh4 : ns_St → Nat → Int32 → Int32 → Option (Int32 × ns_St)) (σ : ns_St) (a0 : Nat) (x1 : Int32) (x2 : Int32) (a3 : Nat) : Option (Int32 × ns_St) := bnd (ns_pI σ a3 2 (0 : Int32)) fun σ12 => bnd (ns_pI σ12 a3 3 (0 : Int32)) fun σ13 => bnd (x2 + 1) fun z14 => kh4 σ13 a0 x1 z14
def g_N_home_4  : Nat → ns_St → Nat → Int32 → Int32 → Option (Int32 × ns_St)
  | 0, _, _, _, _ => none
  | f + 1, σ, a0, x1, x2 => drf (σ.2.2 a0 0) fun b15 => grd (ns_kd b15 = 7) <| ite2 ((σ.1 b15 2) ≤ x2) (some (x1, σ)) (drf (σ.2.2 a0 0) fun b17 => grd (ns_kd b17 = 7) <| drf (σ.2.2 b17 1) fun b18 => grd (ns_kd b18 = 12) <| grd (ns_in x2 (ns_ln b18)) <| drf (σ.2.2 b18 (ns_ix x2)) fun b20 => grd (ns_kd b20 = 2) <| ite2 ((σ.1 b20 2) = 0) (g_N_home_35 (g_N_home_4 f) σ a0 x1 x2 b20) (bnd (x1 + 1) fun z22 => g_N_home_35 (g_N_home_4 f) σ a0 z22 x2 b20))
def g_N_home (σ : ns_St) (a0 : Nat) : Option (Int32 × ns_St) := grd (ns_kd a0 = 8) <| g_N_home_4 ns_F σ a0 (0 : Int32) (0 : Int32)
theorem t_N_home_35 (G : ns_G) (l : Launch) {p : Program} {e : Env} {s : State} {m : MethodId} {args : Array Value} {below : List Frame} {meth : Method} {c : Code} (C : ns_Cx G p s m args meth c prog_1_method_42_code "NinthStep" 4) (hr : meth.sig.returnType = (some .int)) {r : Int32} {σ' : ns_St} {kh4 : ns_St → Nat → Int32 → Int32 → Option (Int32 × ns_St)} (hkh4 : ∀ (σ : ns_St) (a0 : Nat) (x1 : Int32) (x2 : Int32), ns_kd a0 = 8 → kh4 σ a0 x1 x2 = some (r, σ') → VV G p l e { frames := 0, cells := 0, slots := 0, locals := 0 } s m args below meth c 4 0 0 (MQ below (ns_Qc G (some (.int r)) ns_N σ') args s 0 0 (ns_A G)) ns_N σ 4 [(0, .ref (G.1 + a0)), (1, .int x1), (2, .int x2)] []) (σ : ns_St) (a0 : Nat) (x1 : Int32) (x2 : Int32) (a3 : Nat) (hk_a0 : ns_kd a0 = 8) (hk_a3 : ns_kd a3 = 2) (hf : g_N_home_35 kh4 σ a0 x1 x2 a3 = some (r, σ')) : VV G p l e { frames := 0, cells := 0, slots := 0, locals := 0 } s m args below meth c 4 0 0 (MQ below (ns_Qc G (some (.int r)) ns_N σ') args s 0 0 (ns_A G)) ns_N σ 35 [(0, .ref (G.1 + a0)), (1, .int x1), (2, .int x2), (3, .ref (G.1 + a3))] [] := by
  unfold g_N_home_35 at hf
  refine v_aload_n C 3 3 rfl 36 rfl (by decide +kernel) ?_
  refine v_iconst C (0) (0) (by decide) 37 rfl (by decide +kernel) ?_
  obtain ⟨σ12, hσ12, hf⟩ := bnd_e hf
  refine v_putIN C 2 2 hσ12 rfl nin_2 ny_2 nty_2 nnm_2 (ns_kd_lt hk_a3 (by decide)) hk_a3 (by decide) (by decide) rfl rfl rfl rfl 179 tw_93 rfl 40 rfl (by decide +kernel) ?_
  refine v_aload_n C 3 3 rfl 41 rfl (by decide +kernel) ?_
  refine v_iconst C (0) (0) (by decide) 42 rfl (by decide +kernel) ?_
  obtain ⟨σ13, hσ13, hf⟩ := bnd_e hf
  refine v_putIN C 2 3 hσ13 rfl nin_2 ny_2 nty_2 nnm_2 (ns_kd_lt hk_a3 (by decide)) hk_a3 (by decide) (by decide) rfl rfl rfl rfl 182 tw_97 rfl 45 rfl (by decide +kernel) ?_
  obtain ⟨z14, hz14, hf⟩ := bnd_e hf
  refine v_iinc C 2 (1) 2 z14 rfl (by rw [hz14]; rfl) [(2, .int z14), (0, .ref (G.1 + a0)), (1, .int x1), (3, .ref (G.1 + a3))] (by decide) rfl 48 rfl (by decide +kernel) ?_
  refine v_goto C 4 (by decide +kernel) ?_
  refine v_sub [1, 2, 0] rfl ?_
  exact hkh4 σ13 a0 x1 z14 hk_a0 hf
theorem t_N_home_4 (G : ns_G) (l : Launch) {p : Program} {e : Env} {s : State} {m : MethodId} {args : Array Value} {below : List Frame} {meth : Method} {c : Code} (C : ns_Cx G p s m args meth c prog_1_method_42_code "NinthStep" 4) (hr : meth.sig.returnType = (some .int)) {r : Int32} {σ' : ns_St}  : ∀ (f : Nat) (σ : ns_St) (a0 : Nat) (x1 : Int32) (x2 : Int32) (hk_a0 : ns_kd a0 = 8), g_N_home_4 f σ a0 x1 x2 = some (r, σ') → VV G p l e { frames := 0, cells := 0, slots := 0, locals := 0 } s m args below meth c 4 0 0 (MQ below (ns_Qc G (some (.int r)) ns_N σ') args s 0 0 (ns_A G)) ns_N σ 4 [(0, .ref (G.1 + a0)), (1, .int x1), (2, .int x2)] [] := by
  intro f
  induction f with
  | zero =>
    intro σ a0 x1 x2 hk_a0 hf
    cases hf
  | succ f ih =>
    intro σ a0 x1 x2 hk_a0 hf
    rw [g_N_home_4] at hf
    refine v_iload_n C 2 2 rfl 5 rfl (by decide +kernel) ?_
    refine v_aload_n C 0 0 rfl 6 rfl (by decide +kernel) ?_
    obtain ⟨b15, hb15, hf⟩ := drf_e hf
    obtain ⟨hk_b15, hf⟩ := grd_e hf
    refine v_getR C 8 0 hb15 rfl nin_8 (ns_kd_lt hk_a0 (by decide)) hk_a0 (by decide) (by decide) rfl 12 tw_287 rfl 9 rfl (by decide +kernel) ?_
    refine v_getIN C 7 2 rfl nin_7 (ns_kd_lt hk_b15 (by decide)) hk_b15 (by decide) (by decide) rfl 135 tw_135 rfl 12 rfl (by decide +kernel) ?_
    refine v_icmp_ge C 51 15 rfl (by decide +kernel) (fun h16 => ?_) (fun h16 => ?_)
    · have hf := ite2_t hf h16
      refine v_iload_n C 1 1 rfl 52 rfl (by decide +kernel) ?_
      obtain ⟨rfl, rfl⟩ := ret_e hf
      exact v_iret C hr (by decide +kernel)
    · have hf := ite2_f hf h16
      refine v_aload_n C 0 0 rfl 16 rfl (by decide +kernel) ?_
      obtain ⟨b17, hb17, hf⟩ := drf_e hf
      obtain ⟨hk_b17, hf⟩ := grd_e hf
      refine v_getR C 8 0 hb17 rfl nin_8 (ns_kd_lt hk_a0 (by decide)) hk_a0 (by decide) (by decide) rfl 12 tw_287 rfl 19 rfl (by decide +kernel) ?_
      obtain ⟨b18, hb18, hf⟩ := drf_e hf
      obtain ⟨hk_b18, hf⟩ := grd_e hf
      refine v_getRN C 7 1 hb18 rfl nin_7 (ns_kd_lt hk_b17 (by decide)) hk_b17 (by decide) (by decide) rfl 266 tw_131 rfl 22 rfl (by decide +kernel) ?_
      refine v_iload_n C 2 2 rfl 23 rfl (by decide +kernel) ?_
      obtain ⟨hi19, hf⟩ := grd_e hf
      obtain ⟨b20, hb20, hf⟩ := drf_e hf
      obtain ⟨hk_b20, hf⟩ := grd_e hf
      refine v_aald C 12 (by decide) (ns_kd_lt hk_b18 (by decide)) hk_b18 hi19 hb20 24 rfl (by decide +kernel) ?_
      refine v_astore_n C 3 [(3, .ref (G.1 + b20)), (0, .ref (G.1 + a0)), (1, .int x1), (2, .int x2)] (by decide) rfl 25 rfl (by decide +kernel) ?_
      refine v_aload_n C 3 0 rfl 26 rfl (by decide +kernel) ?_
      refine v_getIN C 2 2 rfl nin_2 (ns_kd_lt hk_b20 (by decide)) hk_b20 (by decide) (by decide) rfl 179 tw_93 rfl 29 rfl (by decide +kernel) ?_
      refine v_if_eq C 35 32 rfl (by decide +kernel) (fun h21 => ?_) (fun h21 => ?_)
      · have hf := ite2_t hf h21
        refine v_sub [1, 2, 3, 0] rfl ?_
        exact t_N_home_35 G l C hr ih σ a0 x1 x2 b20 hk_a0 hk_b20 hf
      · have hf := ite2_f hf h21
        obtain ⟨z22, hz22, hf⟩ := bnd_e hf
        refine v_iinc C 1 (1) 2 z22 rfl (by rw [hz22]; rfl) [(1, .int z22), (3, .ref (G.1 + b20)), (0, .ref (G.1 + a0)), (2, .int x2)] (by decide) rfl 35 rfl (by decide +kernel) ?_
        refine v_sub [2, 0, 3, 1] rfl ?_
        exact t_N_home_35 G l C hr ih σ a0 z22 x2 b20 hk_a0 hk_b20 hf
theorem c_N_home (G : ns_G) (l : Launch) (σ : ns_St) (a0 : Nat) {r : Int32} {σ' : ns_St} (hf : g_N_home σ a0 = some (r, σ')) : ns_ok G l ⟨"NinthStep", "home", "()I"⟩ prog_1_method_42_code 4 (some .int) 0 0 0 0 [.ref (G.1 + a0)] ns_N σ (some (.int r)) ns_N σ' := by
  refine v_open (by decide) (Nat.le_of_ble_eq_true rfl) rfl ?_
  intro p e s m below meth c C hr _
  have C : ns_Cx G p s m _ meth c prog_1_method_42_code "NinthStep" 4 := C
  unfold g_N_home at hf
  obtain ⟨hk_a0, hf⟩ := grd_e hf
  refine v_iconst C (0) (0) (by decide) 1 rfl (by decide +kernel) ?_
  refine v_istore_n C 1 [(1, .int (0 : Int32)), (0, .ref (G.1 + a0))] (by decide) rfl 2 rfl (by decide +kernel) ?_
  refine v_iconst C (0) (0) (by decide) 3 rfl (by decide +kernel) ?_
  refine v_istore_n C 2 [(2, .int (0 : Int32)), (1, .int (0 : Int32)), (0, .ref (G.1 + a0))] (by decide) rfl 4 rfl (by decide +kernel) ?_
  refine v_sub [2, 1, 0] rfl ?_
  exact t_N_home_4 G l C hr  ns_F σ a0 (0 : Int32) (0 : Int32) hk_a0 hf
theorem hd_N_home : (⟨"NinthStep", "home", "()I"⟩ : MethodName).cls = "NinthStep" ∧ (⟨"NinthStep", "home", "()I"⟩ : MethodName).cls ≠ "java/lang/invoke/MethodHandle" ∧ (⟨"NinthStep", "home", "()I"⟩ : MethodName).cls ≠ "java/lang/invoke/VarHandle" ∧ (parseMethodDescriptor (⟨"NinthStep", "home", "()I"⟩ : MethodName).desc).map (fun d => d.parameters.length) = some 0 := by decide +kernel
def g_N_seed (σ : ns_St) (a0 : Nat) (x1 : Int32) : Option (Int32 × ns_St) := grd (ns_kd a0 = 8) <| drf (σ.2.2 a0 0) fun b5 => grd (ns_kd b5 = 7) <| bnd (σ.1 b5 5) fun z6 => drf (σ.2.2 a0 0) fun b7 => grd (ns_kd b7 = 7) <| bnd (ns_pI σ b7 5 x1) fun σ8 => some (z6, σ8)
theorem c_N_seed (G : ns_G) (l : Launch) (σ : ns_St) (a0 : Nat) (x1 : Int32) {r : Int32} {σ' : ns_St} (hf : g_N_seed σ a0 x1 = some (r, σ')) : ns_ok G l ⟨"NinthStep", "seed", "(I)I"⟩ prog_1_method_43_code 3 (some .int) 0 0 0 0 [.ref (G.1 + a0), .int x1] ns_N σ (some (.int r)) ns_N σ' := by
  refine v_open (by decide) (Nat.le_of_ble_eq_true rfl) rfl ?_
  intro p e s m below meth c C hr _
  have C : ns_Cx G p s m _ meth c prog_1_method_43_code "NinthStep" 3 := C
  unfold g_N_seed at hf
  obtain ⟨hk_a0, hf⟩ := grd_e hf
  refine v_aload_n C 0 0 rfl 1 rfl (by decide +kernel) ?_
  obtain ⟨b5, hb5, hf⟩ := drf_e hf
  obtain ⟨hk_b5, hf⟩ := grd_e hf
  refine v_getR C 8 0 hb5 rfl nin_8 (ns_kd_lt hk_a0 (by decide)) hk_a0 (by decide) (by decide) rfl 12 tw_287 rfl 4 rfl (by decide +kernel) ?_
  refine v_getIN C 7 5 rfl nin_7 (ns_kd_lt hk_b5 (by decide)) hk_b5 (by decide) (by decide) rfl 330 tw_141 rfl 7 rfl (by decide +kernel) ?_
  obtain ⟨z6, hz6, hf⟩ := bnd_e hf
  refine v_nmI hz6 ?_
  refine v_istore_n C 2 [(2, .int z6), (0, .ref (G.1 + a0)), (1, .int x1)] (by decide) rfl 8 rfl (by decide +kernel) ?_
  refine v_aload_n C 0 1 rfl 9 rfl (by decide +kernel) ?_
  obtain ⟨b7, hb7, hf⟩ := drf_e hf
  obtain ⟨hk_b7, hf⟩ := grd_e hf
  refine v_getR C 8 0 hb7 rfl nin_8 (ns_kd_lt hk_a0 (by decide)) hk_a0 (by decide) (by decide) rfl 12 tw_287 rfl 12 rfl (by decide +kernel) ?_
  refine v_iload_n C 1 2 rfl 13 rfl (by decide +kernel) ?_
  obtain ⟨σ8, hσ8, hf⟩ := bnd_e hf
  refine v_putIN C 7 5 hσ8 rfl nin_7 ny_7 nty_7 nnm_7 (ns_kd_lt hk_b7 (by decide)) hk_b7 (by decide) (by decide) rfl rfl rfl rfl 330 tw_141 rfl 16 rfl (by decide +kernel) ?_
  refine v_iload_n C 2 0 rfl 17 rfl (by decide +kernel) ?_
  obtain ⟨rfl, rfl⟩ := ret_e hf
  exact v_iret C hr (by decide +kernel)
theorem hd_N_seed : (⟨"NinthStep", "seed", "(I)I"⟩ : MethodName).cls = "NinthStep" ∧ (⟨"NinthStep", "seed", "(I)I"⟩ : MethodName).cls ≠ "java/lang/invoke/MethodHandle" ∧ (⟨"NinthStep", "seed", "(I)I"⟩ : MethodName).cls ≠ "java/lang/invoke/VarHandle" ∧ (parseMethodDescriptor (⟨"NinthStep", "seed", "(I)I"⟩ : MethodName).desc).map (fun d => d.parameters.length) = some 1 := by decide +kernel
def g_N_image (σ : ns_St) (a0 : Nat) : Option (Int32 × ns_St) := grd (ns_kd a0 = 8) <| drf (σ.2.2 a0 1) fun b6 => grd (ns_kd b6 = 7) <| drf (σ.2.2 a0 0) fun b7 => grd (ns_kd b7 = 7) <| cl2 (g_World_takeFrom σ b6 b7) fun r9 σ8 => bnd (ns_pI σ8 a0 11 (1 : Int32)) fun σ10 => some ((1 : Int32), σ10)
theorem c_N_image (G : ns_G) (l : Launch) (σ : ns_St) (a0 : Nat) {r : Int32} {σ' : ns_St} (hf : g_N_image σ a0 = some (r, σ')) : ns_ok G l ⟨"NinthStep", "image", "()I"⟩ prog_1_method_44_code 1 (some .int) 2 43 0 0 [.ref (G.1 + a0)] ns_N σ (some (.int r)) ns_N σ' := by
  refine v_open (by decide) (Nat.le_of_ble_eq_true rfl) rfl ?_
  intro p e s m below meth c C hr _
  have C : ns_Cx G p s m _ meth c prog_1_method_44_code "NinthStep" 1 := C
  unfold g_N_image at hf
  obtain ⟨hk_a0, hf⟩ := grd_e hf
  refine v_aload_n C 0 0 rfl 1 rfl (by decide +kernel) ?_
  obtain ⟨b6, hb6, hf⟩ := drf_e hf
  obtain ⟨hk_b6, hf⟩ := grd_e hf
  refine v_getR C 8 1 hb6 rfl nin_8 (ns_kd_lt hk_a0 (by decide)) hk_a0 (by decide) (by decide) rfl 16 tw_288 rfl 4 rfl (by decide +kernel) ?_
  refine v_aload_n C 0 0 rfl 5 rfl (by decide +kernel) ?_
  obtain ⟨b7, hb7, hf⟩ := drf_e hf
  obtain ⟨hk_b7, hf⟩ := grd_e hf
  refine v_getR C 8 0 hb7 rfl nin_8 (ns_kd_lt hk_a0 (by decide)) hk_a0 (by decide) (by decide) rfl 12 tw_287 rfl 8 rfl (by decide +kernel) ?_
  obtain ⟨r9, σ8, hcr9, hf⟩ := cl2_e hf
  refine v_cVN C 7 rfl (ns_kd_lt hk_b6 (by decide)) hk_b6 (by decide) [.ref (G.1 + b7)] [] (c_World_takeFrom G l σ b6 b7 hcr9) 192 1 tw_514 tw_511 tw_513 ts_17 tw_2 hd_World_takeFrom rfl ⟨(Nat.le_of_ble_eq_true rfl), (Nat.le_of_ble_eq_true rfl)⟩ ⟨(Nat.le_of_ble_eq_true rfl), (Nat.le_of_ble_eq_true rfl)⟩ (Nat.le_of_ble_eq_true rfl) rfl 11 rfl (by decide +kernel) [] rfl ?_
  refine v_aload_n C 0 0 rfl 12 rfl (by decide +kernel) ?_
  refine v_iconst C (1) (1) (by decide) 13 rfl (by decide +kernel) ?_
  obtain ⟨σ10, hσ10, hf⟩ := bnd_e hf
  refine v_putI C 8 11 hσ10 rfl nin_8 ny_8 nty_8 nnm_8 (ns_kd_lt hk_a0 (by decide)) hk_a0 (by decide) (by decide) rfl rfl (by decide +kernel) (by decide +kernel) 333 tw_298 rfl 16 rfl (by decide +kernel) ?_
  refine v_iconst C (1) (1) (by decide) 17 rfl (by decide +kernel) ?_
  obtain ⟨rfl, rfl⟩ := ret_e hf
  exact v_iret C hr (by decide +kernel)
theorem hd_N_image : (⟨"NinthStep", "image", "()I"⟩ : MethodName).cls = "NinthStep" ∧ (⟨"NinthStep", "image", "()I"⟩ : MethodName).cls ≠ "java/lang/invoke/MethodHandle" ∧ (⟨"NinthStep", "image", "()I"⟩ : MethodName).cls ≠ "java/lang/invoke/VarHandle" ∧ (parseMethodDescriptor (⟨"NinthStep", "image", "()I"⟩ : MethodName).desc).map (fun d => d.parameters.length) = some 0 := by decide +kernel
def g_N_back_27  : Nat → ns_St → Nat → Int32 → Option (Int32 × ns_St)
  | 0, _, _, _ => none
  | f + 1, σ, a0, x1 => ite2 ((8 : Int32) ≤ x1) (some ((1 : Int32), σ)) (drf (σ.2.2 a0 3) fun b21 => grd (ns_kd b21 = 13) <| grd (ns_in x1 (ns_ln b21)) <| drf (σ.2.2 b21 (ns_ix x1)) fun b23 => grd (ns_kd b23 = 3) <| drf (σ.2.2 a0 0) fun b24 => grd (ns_kd b24 = 7) <| ite2 ((σ.1 b23 0) < ((10 : Int32) + (σ.1 b24 2))) (bnd (x1 + 1) fun z26 => (g_N_back_27 f) σ a0 z26) (drf (σ.2.2 a0 3) fun b27 => grd (ns_kd b27 = 13) <| grd (ns_in x1 (ns_ln b27)) <| drf (σ.2.2 b27 (ns_ix x1)) fun b29 => grd (ns_kd b29 = 3) <| bnd (ns_pI σ b29 0 (-1 : Int32)) fun σ30 => bnd (x1 + 1) fun z31 => (g_N_back_27 f) σ30 a0 z31))
def g_N_back (σ : ns_St) (a0 : Nat) : Option (Int32 × ns_St) := grd (ns_kd a0 = 8) <| ite2 ((σ.1 a0 11) = 0) (cl2 (g_N_refuse σ a0 (-5 : Int32)) fun r38 σ37 => some (r38, σ37)) (drf (σ.2.2 a0 0) fun b33 => grd (ns_kd b33 = 7) <| drf (σ.2.2 a0 1) fun b34 => grd (ns_kd b34 = 7) <| cl2 (g_World_takeFrom σ b33 b34) fun r36 σ35 => g_N_back_27 ns_F σ35 a0 (0 : Int32))
theorem t_N_back_27 (G : ns_G) (l : Launch) {p : Program} {e : Env} {s : State} {m : MethodId} {args : Array Value} {below : List Frame} {meth : Method} {c : Code} (C : ns_Cx G p s m args meth c prog_1_method_45_code "NinthStep" 2) (hr : meth.sig.returnType = (some .int)) {r : Int32} {σ' : ns_St}  : ∀ (f : Nat) (σ : ns_St) (a0 : Nat) (x1 : Int32) (hk_a0 : ns_kd a0 = 8), g_N_back_27 f σ a0 x1 = some (r, σ') → VV G p l e { frames := 2, cells := 0, slots := 0, locals := 44 } s m args below meth c 2 0 0 (MQ below (ns_Qc G (some (.int r)) ns_N σ') args s 0 0 (ns_A G)) ns_N σ 27 [(0, .ref (G.1 + a0)), (1, .int x1)] [] := by
  intro f
  induction f with
  | zero =>
    intro σ a0 x1 hk_a0 hf
    cases hf
  | succ f ih =>
    intro σ a0 x1 hk_a0 hf
    rw [g_N_back_27] at hf
    refine v_iload_n C 1 1 rfl 28 rfl (by decide +kernel) ?_
    refine v_bipush C (8) (8) (by decide) 30 rfl (by decide +kernel) ?_
    refine v_icmp_ge C 71 33 rfl (by decide +kernel) (fun h20 => ?_) (fun h20 => ?_)
    · have hf := ite2_t hf h20
      refine v_iconst C (1) (1) (by decide) 72 rfl (by decide +kernel) ?_
      obtain ⟨rfl, rfl⟩ := ret_e hf
      exact v_iret C hr (by decide +kernel)
    · have hf := ite2_f hf h20
      refine v_aload_n C 0 0 rfl 34 rfl (by decide +kernel) ?_
      obtain ⟨b21, hb21, hf⟩ := drf_e hf
      obtain ⟨hk_b21, hf⟩ := grd_e hf
      refine v_getR C 8 3 hb21 rfl nin_8 (ns_kd_lt hk_a0 (by decide)) hk_a0 (by decide) (by decide) rfl 24 tw_290 rfl 37 rfl (by decide +kernel) ?_
      refine v_iload_n C 1 1 rfl 38 rfl (by decide +kernel) ?_
      obtain ⟨hi22, hf⟩ := grd_e hf
      obtain ⟨b23, hb23, hf⟩ := drf_e hf
      obtain ⟨hk_b23, hf⟩ := grd_e hf
      refine v_aald C 13 (by decide) (ns_kd_lt hk_b21 (by decide)) hk_b21 hi22 hb23 39 rfl (by decide +kernel) ?_
      refine v_getIN C 3 0 rfl nin_3 (ns_kd_lt hk_b23 (by decide)) hk_b23 (by decide) (by decide) rfl 117 tw_275 rfl 42 rfl (by decide +kernel) ?_
      refine v_bipush C (10) (10) (by decide) 44 rfl (by decide +kernel) ?_
      refine v_aload_n C 0 0 rfl 45 rfl (by decide +kernel) ?_
      obtain ⟨b24, hb24, hf⟩ := drf_e hf
      obtain ⟨hk_b24, hf⟩ := grd_e hf
      refine v_getR C 8 0 hb24 rfl nin_8 (ns_kd_lt hk_a0 (by decide)) hk_a0 (by decide) (by decide) rfl 12 tw_287 rfl 48 rfl (by decide +kernel) ?_
      refine v_getIN C 7 2 rfl nin_7 (ns_kd_lt hk_b24 (by decide)) hk_b24 (by decide) (by decide) rfl 135 tw_135 rfl 51 rfl (by decide +kernel) ?_
      refine v_iadd C 52 rfl (by decide +kernel) ?_
      refine v_icmp_lt C 65 55 rfl (by decide +kernel) (fun h25 => ?_) (fun h25 => ?_)
      · have hf := ite2_t hf h25
        obtain ⟨z26, hz26, hf⟩ := bnd_e hf
        refine v_iinc C 1 (1) 1 z26 rfl (by rw [hz26]; rfl) [(1, .int z26), (0, .ref (G.1 + a0))] (by decide) rfl 68 rfl (by decide +kernel) ?_
        refine v_goto C 27 (by decide +kernel) ?_
        refine v_sub [1, 0] rfl ?_
        exact ih σ a0 z26 hk_a0 hf
      · have hf := ite2_f hf h25
        refine v_aload_n C 0 0 rfl 56 rfl (by decide +kernel) ?_
        obtain ⟨b27, hb27, hf⟩ := drf_e hf
        obtain ⟨hk_b27, hf⟩ := grd_e hf
        refine v_getR C 8 3 hb27 rfl nin_8 (ns_kd_lt hk_a0 (by decide)) hk_a0 (by decide) (by decide) rfl 24 tw_290 rfl 59 rfl (by decide +kernel) ?_
        refine v_iload_n C 1 1 rfl 60 rfl (by decide +kernel) ?_
        obtain ⟨hi28, hf⟩ := grd_e hf
        obtain ⟨b29, hb29, hf⟩ := drf_e hf
        obtain ⟨hk_b29, hf⟩ := grd_e hf
        refine v_aald C 13 (by decide) (ns_kd_lt hk_b27 (by decide)) hk_b27 hi28 hb29 61 rfl (by decide +kernel) ?_
        refine v_iconst C (-1) (-1) (by decide) 62 rfl (by decide +kernel) ?_
        obtain ⟨σ30, hσ30, hf⟩ := bnd_e hf
        refine v_putIN C 3 0 hσ30 rfl nin_3 ny_3 nty_3 nnm_3 (ns_kd_lt hk_b29 (by decide)) hk_b29 (by decide) (by decide) rfl rfl rfl rfl 117 tw_275 rfl 65 rfl (by decide +kernel) ?_
        obtain ⟨z31, hz31, hf⟩ := bnd_e hf
        refine v_iinc C 1 (1) 1 z31 rfl (by rw [hz31]; rfl) [(1, .int z31), (0, .ref (G.1 + a0))] (by decide) rfl 68 rfl (by decide +kernel) ?_
        refine v_goto C 27 (by decide +kernel) ?_
        refine v_sub [1, 0] rfl ?_
        exact ih σ30 a0 z31 hk_a0 hf
theorem c_N_back (G : ns_G) (l : Launch) (σ : ns_St) (a0 : Nat) {r : Int32} {σ' : ns_St} (hf : g_N_back σ a0 = some (r, σ')) : ns_ok G l ⟨"NinthStep", "back", "()I"⟩ prog_1_method_45_code 2 (some .int) 2 44 0 0 [.ref (G.1 + a0)] ns_N σ (some (.int r)) ns_N σ' := by
  refine v_open (by decide) (Nat.le_of_ble_eq_true rfl) rfl ?_
  intro p e s m below meth c C hr _
  have C : ns_Cx G p s m _ meth c prog_1_method_45_code "NinthStep" 2 := C
  unfold g_N_back at hf
  obtain ⟨hk_a0, hf⟩ := grd_e hf
  refine v_aload_n C 0 0 rfl 1 rfl (by decide +kernel) ?_
  refine v_getI C 8 11 rfl nin_8 (ns_kd_lt hk_a0 (by decide)) hk_a0 (by decide) (by decide) rfl 333 tw_298 rfl 4 rfl (by decide +kernel) ?_
  refine v_if_ne C 14 7 rfl (by decide +kernel) (fun h32 => ?_) (fun h32 => ?_)
  · have hf := ite2_f hf h32
    refine v_aload_n C 0 0 rfl 15 rfl (by decide +kernel) ?_
    obtain ⟨b33, hb33, hf⟩ := drf_e hf
    obtain ⟨hk_b33, hf⟩ := grd_e hf
    refine v_getR C 8 0 hb33 rfl nin_8 (ns_kd_lt hk_a0 (by decide)) hk_a0 (by decide) (by decide) rfl 12 tw_287 rfl 18 rfl (by decide +kernel) ?_
    refine v_aload_n C 0 0 rfl 19 rfl (by decide +kernel) ?_
    obtain ⟨b34, hb34, hf⟩ := drf_e hf
    obtain ⟨hk_b34, hf⟩ := grd_e hf
    refine v_getR C 8 1 hb34 rfl nin_8 (ns_kd_lt hk_a0 (by decide)) hk_a0 (by decide) (by decide) rfl 16 tw_288 rfl 22 rfl (by decide +kernel) ?_
    obtain ⟨r36, σ35, hcr36, hf⟩ := cl2_e hf
    refine v_cVN C 7 rfl (ns_kd_lt hk_b33 (by decide)) hk_b33 (by decide) [.ref (G.1 + b34)] [] (c_World_takeFrom G l σ b33 b34 hcr36) 192 1 tw_514 tw_511 tw_513 ts_17 tw_2 hd_World_takeFrom rfl ⟨(Nat.le_of_ble_eq_true rfl), (Nat.le_of_ble_eq_true rfl)⟩ ⟨(Nat.le_of_ble_eq_true rfl), (Nat.le_of_ble_eq_true rfl)⟩ (Nat.le_of_ble_eq_true rfl) rfl 25 rfl (by decide +kernel) [] rfl ?_
    refine v_iconst C (0) (0) (by decide) 26 rfl (by decide +kernel) ?_
    refine v_istore_n C 1 [(1, .int (0 : Int32)), (0, .ref (G.1 + a0))] (by decide) rfl 27 rfl (by decide +kernel) ?_
    refine v_sub [1, 0] rfl ?_
    exact t_N_back_27 G l C hr  ns_F σ35 a0 (0 : Int32) hk_a0 hf
  · have hf := ite2_t hf h32
    refine v_aload_n C 0 0 rfl 8 rfl (by decide +kernel) ?_
    refine v_bipush C (-5) (-5) (by decide) 10 rfl (by decide +kernel) ?_
    obtain ⟨r38, σ37, hcr38, hf⟩ := cl2_e hf
    refine v_cV C 8 rfl (ns_kd_lt hk_a0 (by decide)) hk_a0 (by decide) [.int (-5 : Int32)] [] (c_N_refuse G l σ a0 (-5 : Int32) hcr38) 79 1 tw_338 tw_335 tw_337 ts_1 tw_1 hd_N_refuse rfl ⟨(Nat.le_of_ble_eq_true rfl), (Nat.le_of_ble_eq_true rfl)⟩ ⟨(Nat.le_of_ble_eq_true rfl), (Nat.le_of_ble_eq_true rfl)⟩ (Nat.le_of_ble_eq_true rfl) rfl 13 rfl (by decide +kernel) [.int r38] rfl ?_
    obtain ⟨rfl, rfl⟩ := ret_e hf
    exact v_iret C hr (by decide +kernel)
theorem hd_N_back : (⟨"NinthStep", "back", "()I"⟩ : MethodName).cls = "NinthStep" ∧ (⟨"NinthStep", "back", "()I"⟩ : MethodName).cls ≠ "java/lang/invoke/MethodHandle" ∧ (⟨"NinthStep", "back", "()I"⟩ : MethodName).cls ≠ "java/lang/invoke/VarHandle" ∧ (parseMethodDescriptor (⟨"NinthStep", "back", "()I"⟩ : MethodName).desc).map (fun d => d.parameters.length) = some 0 := by decide +kernel
def g_N_shelvesInUse_4  : Nat → ns_St → Nat → Int32 → Int32 → Option (Int32 × ns_St)
  | 0, _, _, _, _ => none
  | f + 1, σ, a0, x1, x2 => ite2 ((8 : Int32) ≤ x2) (some (x1, σ)) (drf (σ.2.2 a0 3) fun b10 => grd (ns_kd b10 = 13) <| grd (ns_in x2 (ns_ln b10)) <| drf (σ.2.2 b10 (ns_ix x2)) fun b12 => grd (ns_kd b12 = 3) <| ite2 ((σ.1 b12 0) = (-1 : Int32)) (bnd (x2 + 1) fun z14 => (g_N_shelvesInUse_4 f) σ a0 x1 z14) (bnd (x1 + 1) fun z15 => bnd (x2 + 1) fun z16 => (g_N_shelvesInUse_4 f) σ a0 z15 z16))
def g_N_shelvesInUse (σ : ns_St) (a0 : Nat) : Option (Int32 × ns_St) := grd (ns_kd a0 = 8) <| g_N_shelvesInUse_4 ns_F σ a0 (0 : Int32) (0 : Int32)
theorem t_N_shelvesInUse_4 (G : ns_G) (l : Launch) {p : Program} {e : Env} {s : State} {m : MethodId} {args : Array Value} {below : List Frame} {meth : Method} {c : Code} (C : ns_Cx G p s m args meth c prog_1_method_49_code "NinthStep" 3) (hr : meth.sig.returnType = (some .int)) {r : Int32} {σ' : ns_St}  : ∀ (f : Nat) (σ : ns_St) (a0 : Nat) (x1 : Int32) (x2 : Int32) (hk_a0 : ns_kd a0 = 8), g_N_shelvesInUse_4 f σ a0 x1 x2 = some (r, σ') → VV G p l e { frames := 0, cells := 0, slots := 0, locals := 0 } s m args below meth c 3 0 0 (MQ below (ns_Qc G (some (.int r)) ns_N σ') args s 0 0 (ns_A G)) ns_N σ 4 [(0, .ref (G.1 + a0)), (1, .int x1), (2, .int x2)] [] := by
  intro f
  induction f with
  | zero =>
    intro σ a0 x1 x2 hk_a0 hf
    cases hf
  | succ f ih =>
    intro σ a0 x1 x2 hk_a0 hf
    rw [g_N_shelvesInUse_4] at hf
    refine v_iload_n C 2 2 rfl 5 rfl (by decide +kernel) ?_
    refine v_bipush C (8) (8) (by decide) 7 rfl (by decide +kernel) ?_
    refine v_icmp_ge C 32 10 rfl (by decide +kernel) (fun h9 => ?_) (fun h9 => ?_)
    · have hf := ite2_t hf h9
      refine v_iload_n C 1 1 rfl 33 rfl (by decide +kernel) ?_
      obtain ⟨rfl, rfl⟩ := ret_e hf
      exact v_iret C hr (by decide +kernel)
    · have hf := ite2_f hf h9
      refine v_aload_n C 0 0 rfl 11 rfl (by decide +kernel) ?_
      obtain ⟨b10, hb10, hf⟩ := drf_e hf
      obtain ⟨hk_b10, hf⟩ := grd_e hf
      refine v_getR C 8 3 hb10 rfl nin_8 (ns_kd_lt hk_a0 (by decide)) hk_a0 (by decide) (by decide) rfl 24 tw_290 rfl 14 rfl (by decide +kernel) ?_
      refine v_iload_n C 2 2 rfl 15 rfl (by decide +kernel) ?_
      obtain ⟨hi11, hf⟩ := grd_e hf
      obtain ⟨b12, hb12, hf⟩ := drf_e hf
      obtain ⟨hk_b12, hf⟩ := grd_e hf
      refine v_aald C 13 (by decide) (ns_kd_lt hk_b10 (by decide)) hk_b10 hi11 hb12 16 rfl (by decide +kernel) ?_
      refine v_getIN C 3 0 rfl nin_3 (ns_kd_lt hk_b12 (by decide)) hk_b12 (by decide) (by decide) rfl 117 tw_275 rfl 19 rfl (by decide +kernel) ?_
      refine v_iconst C (-1) (-1) (by decide) 20 rfl (by decide +kernel) ?_
      refine v_icmp_eq C 26 23 rfl (by decide +kernel) (fun h13 => ?_) (fun h13 => ?_)
      · have hf := ite2_t hf h13
        obtain ⟨z14, hz14, hf⟩ := bnd_e hf
        refine v_iinc C 2 (1) 2 z14 rfl (by rw [hz14]; rfl) [(2, .int z14), (0, .ref (G.1 + a0)), (1, .int x1)] (by decide) rfl 29 rfl (by decide +kernel) ?_
        refine v_goto C 4 (by decide +kernel) ?_
        refine v_sub [1, 2, 0] rfl ?_
        exact ih σ a0 x1 z14 hk_a0 hf
      · have hf := ite2_f hf h13
        obtain ⟨z15, hz15, hf⟩ := bnd_e hf
        refine v_iinc C 1 (1) 1 z15 rfl (by rw [hz15]; rfl) [(1, .int z15), (0, .ref (G.1 + a0)), (2, .int x2)] (by decide) rfl 26 rfl (by decide +kernel) ?_
        obtain ⟨z16, hz16, hf⟩ := bnd_e hf
        refine v_iinc C 2 (1) 2 z16 rfl (by rw [hz16]; rfl) [(2, .int z16), (1, .int z15), (0, .ref (G.1 + a0))] (by decide) rfl 29 rfl (by decide +kernel) ?_
        refine v_goto C 4 (by decide +kernel) ?_
        refine v_sub [2, 1, 0] rfl ?_
        exact ih σ a0 z15 z16 hk_a0 hf
theorem c_N_shelvesInUse (G : ns_G) (l : Launch) (σ : ns_St) (a0 : Nat) {r : Int32} {σ' : ns_St} (hf : g_N_shelvesInUse σ a0 = some (r, σ')) : ns_ok G l ⟨"NinthStep", "shelvesInUse", "()I"⟩ prog_1_method_49_code 3 (some .int) 0 0 0 0 [.ref (G.1 + a0)] ns_N σ (some (.int r)) ns_N σ' := by
  refine v_open (by decide) (Nat.le_of_ble_eq_true rfl) rfl ?_
  intro p e s m below meth c C hr _
  have C : ns_Cx G p s m _ meth c prog_1_method_49_code "NinthStep" 3 := C
  unfold g_N_shelvesInUse at hf
  obtain ⟨hk_a0, hf⟩ := grd_e hf
  refine v_iconst C (0) (0) (by decide) 1 rfl (by decide +kernel) ?_
  refine v_istore_n C 1 [(1, .int (0 : Int32)), (0, .ref (G.1 + a0))] (by decide) rfl 2 rfl (by decide +kernel) ?_
  refine v_iconst C (0) (0) (by decide) 3 rfl (by decide +kernel) ?_
  refine v_istore_n C 2 [(2, .int (0 : Int32)), (1, .int (0 : Int32)), (0, .ref (G.1 + a0))] (by decide) rfl 4 rfl (by decide +kernel) ?_
  refine v_sub [2, 1, 0] rfl ?_
  exact t_N_shelvesInUse_4 G l C hr  ns_F σ a0 (0 : Int32) (0 : Int32) hk_a0 hf
theorem hd_N_shelvesInUse : (⟨"NinthStep", "shelvesInUse", "()I"⟩ : MethodName).cls = "NinthStep" ∧ (⟨"NinthStep", "shelvesInUse", "()I"⟩ : MethodName).cls ≠ "java/lang/invoke/MethodHandle" ∧ (⟨"NinthStep", "shelvesInUse", "()I"⟩ : MethodName).cls ≠ "java/lang/invoke/VarHandle" ∧ (parseMethodDescriptor (⟨"NinthStep", "shelvesInUse", "()I"⟩ : MethodName).desc).map (fun d => d.parameters.length) = some 0 := by decide +kernel
