def g_Shelf_cellAt (σ : ns_St) (a0 : Nat) (x1 : Int32) : Option (Int64 × ns_St) := grd (ns_kd a0 = 3) <| cl2 (g_Shelf_troubleAsRow σ a0) fun r10 σ9 => ite2 (r10 = 0) (ite2 (x1 < 0) (some ((0 : Int64), σ9)) (ite2 ((σ9.1 a0 1) ≤ x1) (some ((0 : Int64), σ9)) (ite2 ((40 : Int32) ≤ x1) (some ((0 : Int64), σ9)) (drf (σ9.2.2 a0 2) fun b15 => grd (ns_kd b15 = 11) <| grd (ns_in x1 (ns_ln b15)) <| some ((σ9.2.1 b15 (ns_ix x1)), σ9))))) (some ((0 : Int64), σ9))
theorem c_Shelf_cellAt (G : ns_G) (l : Launch) (σ : ns_St) (a0 : Nat) (x1 : Int32) {r : Int64} {σ' : ns_St} (hf : g_Shelf_cellAt σ a0 x1 = some (r, σ')) : ns_ok G l ⟨"NinthStep$Shelf", "cellAt", "(I)J"⟩ prog_5_method_4_code 2 (some .long) 1 20 0 0 [.ref (G.1 + a0), .int x1] ns_N σ (some (.long r)) ns_N σ' := by
  refine v_open (by decide) (Nat.le_of_ble_eq_true rfl) rfl ?_
  intro p e s m below meth c C hr _
  have C : ns_Cx G p s m _ meth c prog_5_method_4_code "NinthStep$Shelf" 2 := C
  unfold g_Shelf_cellAt at hf
  obtain ⟨hk_a0, hf⟩ := grd_e hf
  refine v_aload_n C 0 0 rfl 1 rfl (by decide +kernel) ?_
  obtain ⟨r10, σ9, hcr10, hf⟩ := cl2_e hf
  refine v_cV C 3 rfl (ns_kd_lt hk_a0 (by decide)) hk_a0 (by decide) [] [] (c_Shelf_troubleAsRow G l σ a0 hcr10) 22 0 tw_350 tw_378 tw_349 ts_3 tw_9 hd_Shelf_troubleAsRow rfl ⟨(Nat.le_of_ble_eq_true rfl), (Nat.le_of_ble_eq_true rfl)⟩ ⟨(Nat.le_of_ble_eq_true rfl), (Nat.le_of_ble_eq_true rfl)⟩ (Nat.le_of_ble_eq_true rfl) rfl 4 rfl (by decide +kernel) [.int r10] rfl ?_
  refine v_if_ne C 34 7 rfl (by decide +kernel) (fun h11 => ?_) (fun h11 => ?_)
  · have hf := ite2_f hf h11
    refine v_lconst C 0 (0) (by decide) 35 rfl (by decide +kernel) ?_
    cases hf
    exact v_lret C hr (by decide +kernel)
  · have hf := ite2_t hf h11
    refine v_iload_n C 1 1 rfl 8 rfl (by decide +kernel) ?_
    refine v_if_lt C 34 11 rfl (by decide +kernel) (fun h12 => ?_) (fun h12 => ?_)
    · have hf := ite2_t hf h12
      refine v_lconst C 0 (0) (by decide) 35 rfl (by decide +kernel) ?_
      cases hf
      exact v_lret C hr (by decide +kernel)
    · have hf := ite2_f hf h12
      refine v_iload_n C 1 1 rfl 12 rfl (by decide +kernel) ?_
      refine v_aload_n C 0 0 rfl 13 rfl (by decide +kernel) ?_
      refine v_getI C 3 1 rfl nin_3 (ns_kd_lt hk_a0 (by decide)) hk_a0 (by decide) (by decide) rfl 19 tw_276 rfl 16 rfl (by decide +kernel) ?_
      refine v_icmp_ge C 34 19 rfl (by decide +kernel) (fun h13 => ?_) (fun h13 => ?_)
      · have hf := ite2_t hf h13
        refine v_lconst C 0 (0) (by decide) 35 rfl (by decide +kernel) ?_
        cases hf
        exact v_lret C hr (by decide +kernel)
      · have hf := ite2_f hf h13
        refine v_iload_n C 1 1 rfl 20 rfl (by decide +kernel) ?_
        refine v_bipush C (40) (40) (by decide) 22 rfl (by decide +kernel) ?_
        refine v_icmp_ge C 34 25 rfl (by decide +kernel) (fun h14 => ?_) (fun h14 => ?_)
        · have hf := ite2_t hf h14
          refine v_lconst C 0 (0) (by decide) 35 rfl (by decide +kernel) ?_
          cases hf
          exact v_lret C hr (by decide +kernel)
        · have hf := ite2_f hf h14
          refine v_aload_n C 0 0 rfl 26 rfl (by decide +kernel) ?_
          obtain ⟨b15, hb15, hf⟩ := drf_e hf
          obtain ⟨hk_b15, hf⟩ := grd_e hf
          refine v_getR C 3 2 hb15 rfl nin_3 (ns_kd_lt hk_a0 (by decide)) hk_a0 (by decide) (by decide) rfl 15 tw_278 rfl 29 rfl (by decide +kernel) ?_
          refine v_iload_n C 1 1 rfl 30 rfl (by decide +kernel) ?_
          obtain ⟨hi16, hf⟩ := grd_e hf
          refine v_lald C (ns_kd_lt hk_b15 (by decide)) hk_b15 hi16 31 rfl (by decide +kernel) ?_
          refine v_goto C 35 (by decide +kernel) ?_
          cases hf
          exact v_lret C hr (by decide +kernel)
theorem hd_Shelf_cellAt : (⟨"NinthStep$Shelf", "cellAt", "(I)J"⟩ : MethodName).cls = "NinthStep$Shelf" ∧ (⟨"NinthStep$Shelf", "cellAt", "(I)J"⟩ : MethodName).cls ≠ "java/lang/invoke/MethodHandle" ∧ (⟨"NinthStep$Shelf", "cellAt", "(I)J"⟩ : MethodName).cls ≠ "java/lang/invoke/VarHandle" ∧ (parseMethodDescriptor (⟨"NinthStep$Shelf", "cellAt", "(I)J"⟩ : MethodName).desc).map (fun d => d.parameters.length) = some 1 := by decide +kernel
def g_N_element (σ : ns_St) (a0 : Nat) (x1 : Int32) (x2 : Int32) : Option (Int64 × ns_St) := grd (ns_kd a0 = 8) <| cl2 (g_N_shelfAt σ a0 x1) fun r7 σ6 => onul r7 (some ((0 : Int64), σ6)) (fun b8 => grd (ns_kd b8 = 3) <| cl2 (g_Shelf_cellAt σ6 b8 x2) fun r10 σ9 => some (r10, σ9))
theorem c_N_element (G : ns_G) (l : Launch) (σ : ns_St) (a0 : Nat) (x1 : Int32) (x2 : Int32) {r : Int64} {σ' : ns_St} (hf : g_N_element σ a0 x1 x2 = some (r, σ')) : ns_ok G l ⟨"NinthStep", "element", "(II)J"⟩ prog_1_method_5_code 4 (some .long) 2 43 0 0 [.ref (G.1 + a0), .int x1, .int x2] ns_N σ (some (.long r)) ns_N σ' := by
  refine v_open (by decide) (Nat.le_of_ble_eq_true rfl) rfl ?_
  intro p e s m below meth c C hr _
  have C : ns_Cx G p s m _ meth c prog_1_method_5_code "NinthStep" 4 := C
  unfold g_N_element at hf
  obtain ⟨hk_a0, hf⟩ := grd_e hf
  refine v_aload_n C 0 0 rfl 1 rfl (by decide +kernel) ?_
  refine v_iload_n C 1 1 rfl 2 rfl (by decide +kernel) ?_
  obtain ⟨r7, σ6, hcr7, hf⟩ := cl2_e hf
  rcases r7 with _ | b8
  · have hf := onul_n hf
    refine v_cV C 8 rfl (ns_kd_lt hk_a0 (by decide)) hk_a0 (by decide) [.int x1] [] (c_N_shelfAt G l σ a0 x1 hcr7) 71 1 tw_331 tw_328 tw_330 ts_0 tw_1 hd_N_shelfAt rfl ⟨(Nat.le_of_ble_eq_true rfl), (Nat.le_of_ble_eq_true rfl)⟩ ⟨(Nat.le_of_ble_eq_true rfl), (Nat.le_of_ble_eq_true rfl)⟩ (Nat.le_of_ble_eq_true rfl) rfl 5 rfl (by decide +kernel) [.null] rfl ?_
    refine v_astore_nN C 3 [(3, .null), (0, .ref (G.1 + a0)), (1, .int x1), (2, .int x2)] (by decide) rfl 6 rfl (by decide +kernel) ?_
    refine v_aload_nN C 3 0 rfl 7 rfl (by decide +kernel) ?_
    refine v_ifnonnullN C 14 10 rfl (by decide +kernel) ?_
    refine v_lconst C 0 (0) (by decide) 11 rfl (by decide +kernel) ?_
    refine v_goto C 19 (by decide +kernel) ?_
    cases hf
    exact v_lret C hr (by decide +kernel)
  · have hf := onul_s hf
    obtain ⟨hk_b8, hf⟩ := grd_e hf
    refine v_cV C 8 rfl (ns_kd_lt hk_a0 (by decide)) hk_a0 (by decide) [.int x1] [] (c_N_shelfAt G l σ a0 x1 hcr7) 71 1 tw_331 tw_328 tw_330 ts_0 tw_1 hd_N_shelfAt rfl ⟨(Nat.le_of_ble_eq_true rfl), (Nat.le_of_ble_eq_true rfl)⟩ ⟨(Nat.le_of_ble_eq_true rfl), (Nat.le_of_ble_eq_true rfl)⟩ (Nat.le_of_ble_eq_true rfl) rfl 5 rfl (by decide +kernel) [.ref (G.1 + b8)] rfl ?_
    refine v_astore_n C 3 [(3, .ref (G.1 + b8)), (0, .ref (G.1 + a0)), (1, .int x1), (2, .int x2)] (by decide) rfl 6 rfl (by decide +kernel) ?_
    refine v_aload_n C 3 0 rfl 7 rfl (by decide +kernel) ?_
    refine v_ifnonnull C 14 (by decide +kernel) ?_
    refine v_aload_n C 3 0 rfl 15 rfl (by decide +kernel) ?_
    refine v_iload_n C 2 3 rfl 16 rfl (by decide +kernel) ?_
    obtain ⟨r10, σ9, hcr10, hf⟩ := cl2_e hf
    refine v_cVN C 3 rfl (ns_kd_lt hk_b8 (by decide)) hk_b8 (by decide) [.int x2] [] (c_Shelf_cellAt G l σ6 b8 x2 hcr10) 113 1 tw_377 tw_374 tw_376 ts_6 tw_9 hd_Shelf_cellAt rfl ⟨(Nat.le_of_ble_eq_true rfl), (Nat.le_of_ble_eq_true rfl)⟩ ⟨(Nat.le_of_ble_eq_true rfl), (Nat.le_of_ble_eq_true rfl)⟩ (Nat.le_of_ble_eq_true rfl) rfl 19 rfl (by decide +kernel) [.long r10] rfl ?_
    cases hf
    exact v_lret C hr (by decide +kernel)
theorem hd_N_element : (⟨"NinthStep", "element", "(II)J"⟩ : MethodName).cls = "NinthStep" ∧ (⟨"NinthStep", "element", "(II)J"⟩ : MethodName).cls ≠ "java/lang/invoke/MethodHandle" ∧ (⟨"NinthStep", "element", "(II)J"⟩ : MethodName).cls ≠ "java/lang/invoke/VarHandle" ∧ (parseMethodDescriptor (⟨"NinthStep", "element", "(II)J"⟩ : MethodName).desc).map (fun d => d.parameters.length) = some 2 := by decide +kernel
def g_N_holds (σ : ns_St) (a0 : Nat) (x1 : Int32) : Option (Int32 × ns_St) := grd (ns_kd a0 = 8) <| cl2 (g_N_shelfAt σ a0 x1) fun r5 σ4 => onul r5 (some ((-1 : Int32), σ4)) (fun b6 => grd (ns_kd b6 = 3) <| some ((σ4.1 b6 0), σ4))
theorem c_N_holds (G : ns_G) (l : Launch) (σ : ns_St) (a0 : Nat) (x1 : Int32) {r : Int32} {σ' : ns_St} (hf : g_N_holds σ a0 x1 = some (r, σ')) : ns_ok G l ⟨"NinthStep", "holds", "(I)I"⟩ prog_1_method_6_code 3 (some .int) 2 43 0 0 [.ref (G.1 + a0), .int x1] ns_N σ (some (.int r)) ns_N σ' := by
  refine v_open (by decide) (Nat.le_of_ble_eq_true rfl) rfl ?_
  intro p e s m below meth c C hr _
  have C : ns_Cx G p s m _ meth c prog_1_method_6_code "NinthStep" 3 := C
  unfold g_N_holds at hf
  obtain ⟨hk_a0, hf⟩ := grd_e hf
  refine v_aload_n C 0 0 rfl 1 rfl (by decide +kernel) ?_
  refine v_iload_n C 1 1 rfl 2 rfl (by decide +kernel) ?_
  obtain ⟨r5, σ4, hcr5, hf⟩ := cl2_e hf
  rcases r5 with _ | b6
  · have hf := onul_n hf
    refine v_cV C 8 rfl (ns_kd_lt hk_a0 (by decide)) hk_a0 (by decide) [.int x1] [] (c_N_shelfAt G l σ a0 x1 hcr5) 71 1 tw_331 tw_328 tw_330 ts_0 tw_1 hd_N_shelfAt rfl ⟨(Nat.le_of_ble_eq_true rfl), (Nat.le_of_ble_eq_true rfl)⟩ ⟨(Nat.le_of_ble_eq_true rfl), (Nat.le_of_ble_eq_true rfl)⟩ (Nat.le_of_ble_eq_true rfl) rfl 5 rfl (by decide +kernel) [.null] rfl ?_
    refine v_astore_nN C 2 [(2, .null), (0, .ref (G.1 + a0)), (1, .int x1)] (by decide) rfl 6 rfl (by decide +kernel) ?_
    refine v_aload_nN C 2 0 rfl 7 rfl (by decide +kernel) ?_
    refine v_ifnonnullN C 14 10 rfl (by decide +kernel) ?_
    refine v_iconst C (-1) (-1) (by decide) 11 rfl (by decide +kernel) ?_
    refine v_goto C 18 (by decide +kernel) ?_
    cases hf
    exact v_iret C hr (by decide +kernel)
  · have hf := onul_s hf
    obtain ⟨hk_b6, hf⟩ := grd_e hf
    refine v_cV C 8 rfl (ns_kd_lt hk_a0 (by decide)) hk_a0 (by decide) [.int x1] [] (c_N_shelfAt G l σ a0 x1 hcr5) 71 1 tw_331 tw_328 tw_330 ts_0 tw_1 hd_N_shelfAt rfl ⟨(Nat.le_of_ble_eq_true rfl), (Nat.le_of_ble_eq_true rfl)⟩ ⟨(Nat.le_of_ble_eq_true rfl), (Nat.le_of_ble_eq_true rfl)⟩ (Nat.le_of_ble_eq_true rfl) rfl 5 rfl (by decide +kernel) [.ref (G.1 + b6)] rfl ?_
    refine v_astore_n C 2 [(2, .ref (G.1 + b6)), (0, .ref (G.1 + a0)), (1, .int x1)] (by decide) rfl 6 rfl (by decide +kernel) ?_
    refine v_aload_n C 2 0 rfl 7 rfl (by decide +kernel) ?_
    refine v_ifnonnull C 14 (by decide +kernel) ?_
    refine v_aload_n C 2 0 rfl 15 rfl (by decide +kernel) ?_
    refine v_getIN C 3 0 rfl nin_3 (ns_kd_lt hk_b6 (by decide)) hk_b6 (by decide) (by decide) rfl 117 tw_275 rfl 18 rfl (by decide +kernel) ?_
    cases hf
    exact v_iret C hr (by decide +kernel)
theorem hd_N_holds : (⟨"NinthStep", "holds", "(I)I"⟩ : MethodName).cls = "NinthStep" ∧ (⟨"NinthStep", "holds", "(I)I"⟩ : MethodName).cls ≠ "java/lang/invoke/MethodHandle" ∧ (⟨"NinthStep", "holds", "(I)I"⟩ : MethodName).cls ≠ "java/lang/invoke/VarHandle" ∧ (parseMethodDescriptor (⟨"NinthStep", "holds", "(I)I"⟩ : MethodName).desc).map (fun d => d.parameters.length) = some 1 := by decide +kernel
def g_World_muleAt (σ : ns_St) (a0 : Nat) (x1 : Int32) : Option (Option Nat × ns_St) := grd (ns_kd a0 = 7) <| ite2 (x1 < 0) (some (none, σ)) (ite2 ((σ.1 a0 2) ≤ x1) (some (none, σ)) (ite2 ((6 : Int32) ≤ x1) (some (none, σ)) (drf (σ.2.2 a0 1) fun b10 => grd (ns_kd b10 = 12) <| grd (ns_in x1 (ns_ln b10)) <| drf (σ.2.2 b10 (ns_ix x1)) fun b12 => grd (ns_kd b12 = 2) <| some ((some b12), σ))))
theorem c_World_muleAt (G : ns_G) (l : Launch) (σ : ns_St) (a0 : Nat) (x1 : Int32) {r : Option Nat} {σ' : ns_St} (hf : g_World_muleAt σ a0 x1 = some (r, σ')) : ns_ok G l ⟨"NinthStep$World", "muleAt", "(I)LNinthStep$Mule;"⟩ prog_9_method_3_code 2 (some (.object "NinthStep$Mule")) 0 0 0 0 [.ref (G.1 + a0), .int x1] ns_N σ (some (va_rf (ns_rf G.1 r))) ns_N σ' := by
  refine v_open (by decide) (Nat.le_of_ble_eq_true rfl) rfl ?_
  intro p e s m below meth c C hr _
  have C : ns_Cx G p s m _ meth c prog_9_method_3_code "NinthStep$World" 2 := C
  unfold g_World_muleAt at hf
  obtain ⟨hk_a0, hf⟩ := grd_e hf
  refine v_iload_n C 1 1 rfl 1 rfl (by decide +kernel) ?_
  refine v_if_lt C 27 4 rfl (by decide +kernel) (fun h7 => ?_) (fun h7 => ?_)
  · have hf := ite2_t hf h7
    refine v_null C 28 rfl (by decide +kernel) ?_
    cases hf
    exact v_aret C hr (x := none) (by decide +kernel)
  · have hf := ite2_f hf h7
    refine v_iload_n C 1 1 rfl 5 rfl (by decide +kernel) ?_
    refine v_aload_n C 0 0 rfl 6 rfl (by decide +kernel) ?_
    refine v_getI C 7 2 rfl nin_7 (ns_kd_lt hk_a0 (by decide)) hk_a0 (by decide) (by decide) rfl 36 tw_133 rfl 9 rfl (by decide +kernel) ?_
    refine v_icmp_ge C 27 12 rfl (by decide +kernel) (fun h8 => ?_) (fun h8 => ?_)
    · have hf := ite2_t hf h8
      refine v_null C 28 rfl (by decide +kernel) ?_
      cases hf
      exact v_aret C hr (x := none) (by decide +kernel)
    · have hf := ite2_f hf h8
      refine v_iload_n C 1 1 rfl 13 rfl (by decide +kernel) ?_
      refine v_bipush C (6) (6) (by decide) 15 rfl (by decide +kernel) ?_
      refine v_icmp_ge C 27 18 rfl (by decide +kernel) (fun h9 => ?_) (fun h9 => ?_)
      · have hf := ite2_t hf h9
        refine v_null C 28 rfl (by decide +kernel) ?_
        cases hf
        exact v_aret C hr (x := none) (by decide +kernel)
      · have hf := ite2_f hf h9
        refine v_aload_n C 0 0 rfl 19 rfl (by decide +kernel) ?_
        obtain ⟨b10, hb10, hf⟩ := drf_e hf
        obtain ⟨hk_b10, hf⟩ := grd_e hf
        refine v_getR C 7 1 hb10 rfl nin_7 (ns_kd_lt hk_a0 (by decide)) hk_a0 (by decide) (by decide) rfl 20 tw_129 rfl 22 rfl (by decide +kernel) ?_
        refine v_iload_n C 1 1 rfl 23 rfl (by decide +kernel) ?_
        obtain ⟨hi11, hf⟩ := grd_e hf
        obtain ⟨b12, hb12, hf⟩ := drf_e hf
        obtain ⟨hk_b12, hf⟩ := grd_e hf
        refine v_aald C 12 (by decide) (ns_kd_lt hk_b10 (by decide)) hk_b10 hi11 hb12 24 rfl (by decide +kernel) ?_
        refine v_goto C 28 (by decide +kernel) ?_
        cases hf
        exact v_aret C hr (x := (some b12)) (by decide +kernel)
theorem hd_World_muleAt : (⟨"NinthStep$World", "muleAt", "(I)LNinthStep$Mule;"⟩ : MethodName).cls = "NinthStep$World" ∧ (⟨"NinthStep$World", "muleAt", "(I)LNinthStep$Mule;"⟩ : MethodName).cls ≠ "java/lang/invoke/MethodHandle" ∧ (⟨"NinthStep$World", "muleAt", "(I)LNinthStep$Mule;"⟩ : MethodName).cls ≠ "java/lang/invoke/VarHandle" ∧ (parseMethodDescriptor (⟨"NinthStep$World", "muleAt", "(I)LNinthStep$Mule;"⟩ : MethodName).desc).map (fun d => d.parameters.length) = some 1 := by decide +kernel
def g_N_show_33  (σ : ns_St) (x2 : Int32) (a3 : Nat) : Option (Int32 × ns_St) := ite2 (x2 = (-1 : Int32)) (bnd (ns_pI σ a3 0 (-1 : Int32)) fun σ18 => some ((1 : Int32), σ18)) (bnd (ns_pI σ a3 0 ((10 : Int32) + x2)) fun σ17 => some ((1 : Int32), σ17))
def g_N_show (σ : ns_St) (a0 : Nat) (x1 : Int32) (x2 : Int32) : Option (Int32 × ns_St) := grd (ns_kd a0 = 8) <| cl2 (g_N_shelfAt σ a0 x1) fun r20 σ19 => onul r20 (cl2 (g_N_refuse σ19 a0 (-2 : Int32)) fun r23 σ22 => some (r23, σ22)) (fun b21 => grd (ns_kd b21 = 3) <| ite2 (x2 = (-1 : Int32)) (g_N_show_33 σ19 x2 b21) (drf (σ19.2.2 a0 0) fun b25 => grd (ns_kd b25 = 7) <| cl2 (g_World_muleAt σ19 b25 x2) fun r27 σ26 => onul r27 (cl2 (g_N_refuse σ26 a0 (-2 : Int32)) fun r30 σ29 => some (r30, σ29)) (fun b28 => grd (ns_kd b28 = 2) <| g_N_show_33 σ26 x2 b21)))
theorem t_N_show_33 (G : ns_G) (l : Launch) {p : Program} {e : Env} {s : State} {m : MethodId} {args : Array Value} {below : List Frame} {meth : Method} {c : Code} (C : ns_Cx G p s m args meth c prog_1_method_7_code "NinthStep" 4) (hr : meth.sig.returnType = (some .int)) {r : Int32} {σ' : ns_St}  (σ : ns_St) (x2 : Int32) (a3 : Nat) (hk_a3 : ns_kd a3 = 3) (hf : g_N_show_33 σ x2 a3 = some (r, σ')) : VV G p l e { frames := 2, cells := 0, slots := 0, locals := 44 } s m args below meth c 4 0 0 (MQ below (ns_Qc G (some (.int r)) ns_N σ') args s 0 0 (ns_A G)) ns_N σ 33 [(2, .int x2), (3, .ref (G.1 + a3))] [] := by
  unfold g_N_show_33 at hf
  refine v_aload_n C 3 1 rfl 34 rfl (by decide +kernel) ?_
  refine v_iload_n C 2 0 rfl 35 rfl (by decide +kernel) ?_
  refine v_iconst C (-1) (-1) (by decide) 36 rfl (by decide +kernel) ?_
  refine v_icmp_ne C 43 39 rfl (by decide +kernel) (fun h16 => ?_) (fun h16 => ?_)
  · have hf := ite2_f hf h16
    refine v_bipush C (10) (10) (by decide) 45 rfl (by decide +kernel) ?_
    refine v_iload_n C 2 0 rfl 46 rfl (by decide +kernel) ?_
    refine v_iadd C 47 rfl (by decide +kernel) ?_
    obtain ⟨σ17, hσ17, hf⟩ := bnd_e hf
    refine v_putIN C 3 0 hσ17 rfl nin_3 ny_3 nty_3 nnm_3 (ns_kd_lt hk_a3 (by decide)) hk_a3 (by decide) (by decide) rfl rfl rfl rfl 117 tw_275 rfl 50 rfl (by decide +kernel) ?_
    refine v_iconst C (1) (1) (by decide) 51 rfl (by decide +kernel) ?_
    cases hf
    exact v_iret C hr (by decide +kernel)
  · have hf := ite2_t hf h16
    refine v_iconst C (-1) (-1) (by decide) 40 rfl (by decide +kernel) ?_
    refine v_goto C 47 (by decide +kernel) ?_
    obtain ⟨σ18, hσ18, hf⟩ := bnd_e hf
    refine v_putIN C 3 0 hσ18 rfl nin_3 ny_3 nty_3 nnm_3 (ns_kd_lt hk_a3 (by decide)) hk_a3 (by decide) (by decide) rfl rfl rfl rfl 117 tw_275 rfl 50 rfl (by decide +kernel) ?_
    refine v_iconst C (1) (1) (by decide) 51 rfl (by decide +kernel) ?_
    cases hf
    exact v_iret C hr (by decide +kernel)
theorem c_N_show (G : ns_G) (l : Launch) (σ : ns_St) (a0 : Nat) (x1 : Int32) (x2 : Int32) {r : Int32} {σ' : ns_St} (hf : g_N_show σ a0 x1 x2 = some (r, σ')) : ns_ok G l ⟨"NinthStep", "show", "(II)I"⟩ prog_1_method_7_code 4 (some .int) 2 44 0 0 [.ref (G.1 + a0), .int x1, .int x2] ns_N σ (some (.int r)) ns_N σ' := by
  refine v_open (by decide) (Nat.le_of_ble_eq_true rfl) rfl ?_
  intro p e s m below meth c C hr _
  have C : ns_Cx G p s m _ meth c prog_1_method_7_code "NinthStep" 4 := C
  unfold g_N_show at hf
  obtain ⟨hk_a0, hf⟩ := grd_e hf
  refine v_aload_n C 0 0 rfl 1 rfl (by decide +kernel) ?_
  refine v_iload_n C 1 1 rfl 2 rfl (by decide +kernel) ?_
  obtain ⟨r20, σ19, hcr20, hf⟩ := cl2_e hf
  rcases r20 with _ | b21
  · have hf := onul_n hf
    refine v_cV C 8 rfl (ns_kd_lt hk_a0 (by decide)) hk_a0 (by decide) [.int x1] [] (c_N_shelfAt G l σ a0 x1 hcr20) 71 1 tw_331 tw_328 tw_330 ts_0 tw_1 hd_N_shelfAt rfl ⟨(Nat.le_of_ble_eq_true rfl), (Nat.le_of_ble_eq_true rfl)⟩ ⟨(Nat.le_of_ble_eq_true rfl), (Nat.le_of_ble_eq_true rfl)⟩ (Nat.le_of_ble_eq_true rfl) rfl 5 rfl (by decide +kernel) [.null] rfl ?_
    refine v_astore_nN C 3 [(3, .null), (0, .ref (G.1 + a0)), (1, .int x1), (2, .int x2)] (by decide) rfl 6 rfl (by decide +kernel) ?_
    refine v_aload_nN C 3 0 rfl 7 rfl (by decide +kernel) ?_
    refine v_ifnullN C 26 (by decide +kernel) ?_
    refine v_aload_n C 0 1 rfl 27 rfl (by decide +kernel) ?_
    refine v_bipush C (-2) (-2) (by decide) 29 rfl (by decide +kernel) ?_
    obtain ⟨r23, σ22, hcr23, hf⟩ := cl2_e hf
    refine v_cV C 8 rfl (ns_kd_lt hk_a0 (by decide)) hk_a0 (by decide) [.int (-2 : Int32)] [] (c_N_refuse G l σ19 a0 (-2 : Int32) hcr23) 79 1 tw_338 tw_335 tw_337 ts_1 tw_1 hd_N_refuse rfl ⟨(Nat.le_of_ble_eq_true rfl), (Nat.le_of_ble_eq_true rfl)⟩ ⟨(Nat.le_of_ble_eq_true rfl), (Nat.le_of_ble_eq_true rfl)⟩ (Nat.le_of_ble_eq_true rfl) rfl 32 rfl (by decide +kernel) [.int r23] rfl ?_
    cases hf
    exact v_iret C hr (by decide +kernel)
  · have hf := onul_s hf
    obtain ⟨hk_b21, hf⟩ := grd_e hf
    refine v_cV C 8 rfl (ns_kd_lt hk_a0 (by decide)) hk_a0 (by decide) [.int x1] [] (c_N_shelfAt G l σ a0 x1 hcr20) 71 1 tw_331 tw_328 tw_330 ts_0 tw_1 hd_N_shelfAt rfl ⟨(Nat.le_of_ble_eq_true rfl), (Nat.le_of_ble_eq_true rfl)⟩ ⟨(Nat.le_of_ble_eq_true rfl), (Nat.le_of_ble_eq_true rfl)⟩ (Nat.le_of_ble_eq_true rfl) rfl 5 rfl (by decide +kernel) [.ref (G.1 + b21)] rfl ?_
    refine v_astore_n C 3 [(3, .ref (G.1 + b21)), (0, .ref (G.1 + a0)), (1, .int x1), (2, .int x2)] (by decide) rfl 6 rfl (by decide +kernel) ?_
    refine v_aload_n C 3 0 rfl 7 rfl (by decide +kernel) ?_
    refine v_ifnull C 26 10 rfl (by decide +kernel) ?_
    refine v_iload_n C 2 3 rfl 11 rfl (by decide +kernel) ?_
    refine v_iconst C (-1) (-1) (by decide) 12 rfl (by decide +kernel) ?_
    refine v_icmp_eq C 33 15 rfl (by decide +kernel) (fun h24 => ?_) (fun h24 => ?_)
    · have hf := ite2_t hf h24
      refine v_sub [3, 0] rfl ?_
      exact t_N_show_33 G l C hr  σ19 x2 b21 hk_b21 hf
    · have hf := ite2_f hf h24
      refine v_aload_n C 0 1 rfl 16 rfl (by decide +kernel) ?_
      obtain ⟨b25, hb25, hf⟩ := drf_e hf
      obtain ⟨hk_b25, hf⟩ := grd_e hf
      refine v_getR C 8 0 hb25 rfl nin_8 (ns_kd_lt hk_a0 (by decide)) hk_a0 (by decide) (by decide) rfl 12 tw_287 rfl 19 rfl (by decide +kernel) ?_
      refine v_iload_n C 2 3 rfl 20 rfl (by decide +kernel) ?_
      obtain ⟨r27, σ26, hcr27, hf⟩ := cl2_e hf
      rcases r27 with _ | b28
      · have hf := onul_n hf
        refine v_cVN C 7 rfl (ns_kd_lt hk_b25 (by decide)) hk_b25 (by decide) [.int x2] [] (c_World_muleAt G l σ19 b25 x2 hcr27) 120 1 tw_390 tw_387 tw_389 ts_7 tw_2 hd_World_muleAt rfl ⟨(Nat.le_of_ble_eq_true rfl), (Nat.le_of_ble_eq_true rfl)⟩ ⟨(Nat.le_of_ble_eq_true rfl), (Nat.le_of_ble_eq_true rfl)⟩ (Nat.le_of_ble_eq_true rfl) rfl 23 rfl (by decide +kernel) [.null] rfl ?_
        refine v_ifnonnullN C 33 26 rfl (by decide +kernel) ?_
        refine v_aload_n C 0 1 rfl 27 rfl (by decide +kernel) ?_
        refine v_bipush C (-2) (-2) (by decide) 29 rfl (by decide +kernel) ?_
        obtain ⟨r30, σ29, hcr30, hf⟩ := cl2_e hf
        refine v_cV C 8 rfl (ns_kd_lt hk_a0 (by decide)) hk_a0 (by decide) [.int (-2 : Int32)] [] (c_N_refuse G l σ26 a0 (-2 : Int32) hcr30) 79 1 tw_338 tw_335 tw_337 ts_1 tw_1 hd_N_refuse rfl ⟨(Nat.le_of_ble_eq_true rfl), (Nat.le_of_ble_eq_true rfl)⟩ ⟨(Nat.le_of_ble_eq_true rfl), (Nat.le_of_ble_eq_true rfl)⟩ (Nat.le_of_ble_eq_true rfl) rfl 32 rfl (by decide +kernel) [.int r30] rfl ?_
        cases hf
        exact v_iret C hr (by decide +kernel)
      · have hf := onul_s hf
        obtain ⟨hk_b28, hf⟩ := grd_e hf
        refine v_cVN C 7 rfl (ns_kd_lt hk_b25 (by decide)) hk_b25 (by decide) [.int x2] [] (c_World_muleAt G l σ19 b25 x2 hcr27) 120 1 tw_390 tw_387 tw_389 ts_7 tw_2 hd_World_muleAt rfl ⟨(Nat.le_of_ble_eq_true rfl), (Nat.le_of_ble_eq_true rfl)⟩ ⟨(Nat.le_of_ble_eq_true rfl), (Nat.le_of_ble_eq_true rfl)⟩ (Nat.le_of_ble_eq_true rfl) rfl 23 rfl (by decide +kernel) [.ref (G.1 + b28)] rfl ?_
        refine v_ifnonnull C 33 (by decide +kernel) ?_
        refine v_sub [3, 0] rfl ?_
        exact t_N_show_33 G l C hr  σ26 x2 b21 hk_b21 hf
theorem hd_N_show : (⟨"NinthStep", "show", "(II)I"⟩ : MethodName).cls = "NinthStep" ∧ (⟨"NinthStep", "show", "(II)I"⟩ : MethodName).cls ≠ "java/lang/invoke/MethodHandle" ∧ (⟨"NinthStep", "show", "(II)I"⟩ : MethodName).cls ≠ "java/lang/invoke/VarHandle" ∧ (parseMethodDescriptor (⟨"NinthStep", "show", "(II)I"⟩ : MethodName).desc).map (fun d => d.parameters.length) = some 2 := by decide +kernel
def g_N_above (σ : ns_St) (x0 : Int32) : Option (Int64 × ns_St) := some (((-2 : Int64) <<< (x0.toInt64 &&& 63)), σ)
theorem c_N_above (G : ns_G) (l : Launch) (σ : ns_St) (x0 : Int32) {r : Int64} {σ' : ns_St} (hf : g_N_above σ x0 = some (r, σ')) : ns_ok G l ⟨"NinthStep", "above", "(I)J"⟩ prog_1_method_71_code 1 (some .long) 0 0 0 0 [.int x0] ns_N σ (some (.long r)) ns_N σ' := by
  refine v_open (by decide) (Nat.le_of_ble_eq_true rfl) rfl ?_
  intro p e s m below meth c C hr _
  have C : ns_Cx G p s m _ meth c prog_1_method_71_code "NinthStep" 1 := C
  unfold g_N_above at hf
  refine v_ldc2 C 382 (-2) tw_407 3 rfl (by decide +kernel) ?_
  refine v_iload_n C 0 0 rfl 4 rfl (by decide +kernel) ?_
  refine v_lshl C 5 rfl (by decide +kernel) ?_
  cases hf
  exact v_lret C hr (by decide +kernel)
theorem hd_N_above : (⟨"NinthStep", "above", "(I)J"⟩ : MethodName).cls ≠ "java/lang/invoke/MethodHandle" ∧ (⟨"NinthStep", "above", "(I)J"⟩ : MethodName).cls ≠ "java/lang/invoke/VarHandle" ∧ (parseMethodDescriptor (⟨"NinthStep", "above", "(I)J"⟩ : MethodName).desc).map (fun d => d.parameters.length) = some 1 := by decide +kernel
def g_N_firstOf (σ : ns_St) (x0 : Int64) : Option (Int32 × ns_St) := ite2 ((lg_cmp x0 (0 : Int64)) = 0) (some ((-1 : Int32), σ)) (cl2 (g_Long_numberOfTrailingZeros σ x0) fun r6 σ5 => some (r6, σ5))
theorem c_N_firstOf (G : ns_G) (l : Launch) (σ : ns_St) (x0 : Int64) {r : Int32} {σ' : ns_St} (hf : g_N_firstOf σ x0 = some (r, σ')) : ns_ok G l ⟨"NinthStep", "firstOf", "(J)I"⟩ prog_1_method_73_code 2 (some .int) 2 43 0 0 [.long x0] ns_N σ (some (.int r)) ns_N σ' := by
  refine v_open (by decide) (Nat.le_of_ble_eq_true rfl) rfl ?_
  intro p e s m below meth c C hr _
  have C : ns_Cx G p s m _ meth c prog_1_method_73_code "NinthStep" 2 := C
  unfold g_N_firstOf at hf
  refine v_lload_n C 0 0 rfl 1 rfl (by decide +kernel) ?_
  refine v_lconst C 0 (0) (by decide) 2 rfl (by decide +kernel) ?_
  refine v_lcmp C 3 rfl (by decide +kernel) ?_
  refine v_if_ne C 10 6 rfl (by decide +kernel) (fun h4 => ?_) (fun h4 => ?_)
  · have hf := ite2_f hf h4
    refine v_lload_n C 0 0 rfl 11 rfl (by decide +kernel) ?_
    obtain ⟨r6, σ5, hcr6, hf⟩ := cl2_e hf
    refine v_cS C [.long x0] [] (c_Long_numberOfTrailingZeros G l σ x0 hcr6) 219 1 tw_419 tw_417 tw_418 tw_12 hd_Long_numberOfTrailingZeros rfl ⟨(Nat.le_of_ble_eq_true rfl), (Nat.le_of_ble_eq_true rfl)⟩ ⟨(Nat.le_of_ble_eq_true rfl), (Nat.le_of_ble_eq_true rfl)⟩ (Nat.le_of_ble_eq_true rfl) rfl 14 rfl (by decide +kernel) [.int r6] rfl ?_
    cases hf
    exact v_iret C hr (by decide +kernel)
  · have hf := ite2_t hf h4
    refine v_iconst C (-1) (-1) (by decide) 7 rfl (by decide +kernel) ?_
    refine v_goto C 14 (by decide +kernel) ?_
    cases hf
    exact v_iret C hr (by decide +kernel)
theorem hd_N_firstOf : (⟨"NinthStep", "firstOf", "(J)I"⟩ : MethodName).cls ≠ "java/lang/invoke/MethodHandle" ∧ (⟨"NinthStep", "firstOf", "(J)I"⟩ : MethodName).cls ≠ "java/lang/invoke/VarHandle" ∧ (parseMethodDescriptor (⟨"NinthStep", "firstOf", "(J)I"⟩ : MethodName).desc).map (fun d => d.parameters.length) = some 1 := by decide +kernel
def g_N_saidAs (σ : ns_St) (a0 : Nat) (a1 : Nat) (x2 : Int32) : Option (Int32 × ns_St) := grd (ns_kd a0 = 8) <| grd (ns_kd a1 = 2) <| drf (σ.2.2 a0 0) fun b24 => grd (ns_kd b24 = 7) <| drf (σ.2.2 b24 0) fun b25 => grd (ns_kd b25 = 1) <| ite2 (x2 = 1) (some ((σ.1 a1 6), σ)) (ite2 (x2 = 2) (cl2 (g_N_above σ (σ.1 a1 2)) fun r29 σ28 => cl2 (g_Long_bitCount σ28 ((σ.2.1 b25 1) &&& r29)) fun r31 σ30 => some (r31, σ30)) (ite2 (x2 = 3) (cl2 (g_N_above σ (σ.1 a1 2)) fun r34 σ33 => cl2 (g_Long_bitCount σ33 ((σ.2.1 b25 3) &&& r34)) fun r36 σ35 => some (r36, σ35)) (ite2 (x2 = 4) (cl2 (g_N_above σ (σ.1 a1 2)) fun r39 σ38 => cl2 (g_Long_bitCount σ38 ((σ.2.1 b25 2) &&& r39)) fun r41 σ40 => some (r41, σ40)) (ite2 (x2 = 5) (cl2 (g_N_above σ (σ.1 a1 2)) fun r44 σ43 => cl2 (g_N_firstOf σ43 ((σ.2.1 b25 2) &&& r44)) fun r46 σ45 => some (r46, σ45)) (some ((σ.1 a1 1), σ))))))
theorem c_N_saidAs (G : ns_G) (l : Launch) (σ : ns_St) (a0 : Nat) (a1 : Nat) (x2 : Int32) {r : Int32} {σ' : ns_St} (hf : g_N_saidAs σ a0 a1 x2 = some (r, σ')) : ns_ok G l ⟨"NinthStep", "saidAs", "(LNinthStep$Mule;I)I"⟩ prog_1_method_52_code 4 (some .int) 3 64 0 0 [.ref (G.1 + a0), .ref (G.1 + a1), .int x2] ns_N σ (some (.int r)) ns_N σ' := by
  refine v_open (by decide) (Nat.le_of_ble_eq_true rfl) rfl ?_
  intro p e s m below meth c C hr _
  have C : ns_Cx G p s m _ meth c prog_1_method_52_code "NinthStep" 4 := C
  unfold g_N_saidAs at hf
  obtain ⟨hk_a0, hf⟩ := grd_e hf
  obtain ⟨hk_a1, hf⟩ := grd_e hf
  refine v_aload_n C 0 0 rfl 1 rfl (by decide +kernel) ?_
  obtain ⟨b24, hb24, hf⟩ := drf_e hf
  obtain ⟨hk_b24, hf⟩ := grd_e hf
  refine v_getR C 8 0 hb24 rfl nin_8 (ns_kd_lt hk_a0 (by decide)) hk_a0 (by decide) (by decide) rfl 12 tw_287 rfl 4 rfl (by decide +kernel) ?_
  obtain ⟨b25, hb25, hf⟩ := drf_e hf
  obtain ⟨hk_b25, hf⟩ := grd_e hf
  refine v_getRN C 7 0 hb25 rfl nin_7 (ns_kd_lt hk_b24 (by decide)) hk_b24 (by decide) (by decide) rfl 138 tw_128 rfl 7 rfl (by decide +kernel) ?_
  refine v_astore_n C 3 [(3, .ref (G.1 + b25)), (0, .ref (G.1 + a0)), (1, .ref (G.1 + a1)), (2, .int x2)] (by decide) rfl 8 rfl (by decide +kernel) ?_
  refine v_iload_n C 2 3 rfl 9 rfl (by decide +kernel) ?_
  by_cases h26 : x2 = 1
  · have hf := ite2_t hf h26
    refine v_tswI C (104) (1) (5) #[(35), (40), (56), (72), (88)] 35 44 (1) h26 (by decide) (by decide) (35) (by decide) (by decide) (by decide +kernel) ?_
    refine v_aload_n C 1 2 rfl 45 rfl (by decide +kernel) ?_
    refine v_getIN C 2 6 rfl nin_2 (ns_kd_lt hk_a1 (by decide)) hk_a1 (by decide) (by decide) rfl 340 tw_105 rfl 48 rfl (by decide +kernel) ?_
    cases hf
    exact v_iret C hr (by decide +kernel)
  · have hf := ite2_f hf h26
    by_cases h27 : x2 = 2
    · have hf := ite2_t hf h27
      refine v_tswI C (104) (1) (5) #[(35), (40), (56), (72), (88)] 35 49 (2) h27 (by decide) (by decide) (40) (by decide) (by decide) (by decide +kernel) ?_
      refine v_aload_n C 3 0 rfl 50 rfl (by decide +kernel) ?_
      refine v_getJN C 1 1 rfl nin_1 (ns_kd_lt hk_b25 (by decide)) hk_b25 (by decide) (by decide) rfl 343 tw_50 rfl 53 rfl (by decide +kernel) ?_
      refine v_aload_n C 1 2 rfl 54 rfl (by decide +kernel) ?_
      refine v_getIN C 2 2 rfl nin_2 (ns_kd_lt hk_a1 (by decide)) hk_a1 (by decide) (by decide) rfl 179 tw_93 rfl 57 rfl (by decide +kernel) ?_
      obtain ⟨r29, σ28, hcr29, hf⟩ := cl2_e hf
      refine v_cS C [.int (σ.1 a1 2)] [.long (σ.2.1 b25 1)] (c_N_above G l σ (σ.1 a1 2) hcr29) 346 1 tw_406 tw_404 tw_405 tw_1 hd_N_above rfl ⟨(Nat.le_of_ble_eq_true rfl), (Nat.le_of_ble_eq_true rfl)⟩ ⟨(Nat.le_of_ble_eq_true rfl), (Nat.le_of_ble_eq_true rfl)⟩ (Nat.le_of_ble_eq_true rfl) rfl 60 rfl (by decide +kernel) [.long r29, .long (σ.2.1 b25 1)] rfl ?_
      refine v_land C 61 rfl (by decide +kernel) ?_
      obtain ⟨r31, σ30, hcr31, hf⟩ := cl2_e hf
      refine v_cS C [.long ((σ.2.1 b25 1) &&& r29)] [] (c_Long_bitCount G l σ28 ((σ.2.1 b25 1) &&& r29) hcr31) 213 1 tw_410 tw_408 tw_409 tw_12 hd_Long_bitCount rfl ⟨(Nat.le_of_ble_eq_true rfl), (Nat.le_of_ble_eq_true rfl)⟩ ⟨(Nat.le_of_ble_eq_true rfl), (Nat.le_of_ble_eq_true rfl)⟩ (Nat.le_of_ble_eq_true rfl) rfl 64 rfl (by decide +kernel) [.int r31] rfl ?_
      cases hf
      exact v_iret C hr (by decide +kernel)
    · have hf := ite2_f hf h27
      by_cases h32 : x2 = 3
      · have hf := ite2_t hf h32
        refine v_tswI C (104) (1) (5) #[(35), (40), (56), (72), (88)] 35 65 (3) h32 (by decide) (by decide) (56) (by decide) (by decide) (by decide +kernel) ?_
        refine v_aload_n C 3 0 rfl 66 rfl (by decide +kernel) ?_
        refine v_getJN C 1 3 rfl nin_1 (ns_kd_lt hk_b25 (by decide)) hk_b25 (by decide) (by decide) rfl 234 tw_60 rfl 69 rfl (by decide +kernel) ?_
        refine v_aload_n C 1 2 rfl 70 rfl (by decide +kernel) ?_
        refine v_getIN C 2 2 rfl nin_2 (ns_kd_lt hk_a1 (by decide)) hk_a1 (by decide) (by decide) rfl 179 tw_93 rfl 73 rfl (by decide +kernel) ?_
        obtain ⟨r34, σ33, hcr34, hf⟩ := cl2_e hf
        refine v_cS C [.int (σ.1 a1 2)] [.long (σ.2.1 b25 3)] (c_N_above G l σ (σ.1 a1 2) hcr34) 346 1 tw_406 tw_404 tw_405 tw_1 hd_N_above rfl ⟨(Nat.le_of_ble_eq_true rfl), (Nat.le_of_ble_eq_true rfl)⟩ ⟨(Nat.le_of_ble_eq_true rfl), (Nat.le_of_ble_eq_true rfl)⟩ (Nat.le_of_ble_eq_true rfl) rfl 76 rfl (by decide +kernel) [.long r34, .long (σ.2.1 b25 3)] rfl ?_
        refine v_land C 77 rfl (by decide +kernel) ?_
        obtain ⟨r36, σ35, hcr36, hf⟩ := cl2_e hf
        refine v_cS C [.long ((σ.2.1 b25 3) &&& r34)] [] (c_Long_bitCount G l σ33 ((σ.2.1 b25 3) &&& r34) hcr36) 213 1 tw_410 tw_408 tw_409 tw_12 hd_Long_bitCount rfl ⟨(Nat.le_of_ble_eq_true rfl), (Nat.le_of_ble_eq_true rfl)⟩ ⟨(Nat.le_of_ble_eq_true rfl), (Nat.le_of_ble_eq_true rfl)⟩ (Nat.le_of_ble_eq_true rfl) rfl 80 rfl (by decide +kernel) [.int r36] rfl ?_
        cases hf
        exact v_iret C hr (by decide +kernel)
      · have hf := ite2_f hf h32
        by_cases h37 : x2 = 4
        · have hf := ite2_t hf h37
          refine v_tswI C (104) (1) (5) #[(35), (40), (56), (72), (88)] 35 81 (4) h37 (by decide) (by decide) (72) (by decide) (by decide) (by decide +kernel) ?_
          refine v_aload_n C 3 0 rfl 82 rfl (by decide +kernel) ?_
          refine v_getJN C 1 2 rfl nin_1 (ns_kd_lt hk_b25 (by decide)) hk_b25 (by decide) (by decide) rfl 349 tw_53 rfl 85 rfl (by decide +kernel) ?_
          refine v_aload_n C 1 2 rfl 86 rfl (by decide +kernel) ?_
          refine v_getIN C 2 2 rfl nin_2 (ns_kd_lt hk_a1 (by decide)) hk_a1 (by decide) (by decide) rfl 179 tw_93 rfl 89 rfl (by decide +kernel) ?_
          obtain ⟨r39, σ38, hcr39, hf⟩ := cl2_e hf
          refine v_cS C [.int (σ.1 a1 2)] [.long (σ.2.1 b25 2)] (c_N_above G l σ (σ.1 a1 2) hcr39) 346 1 tw_406 tw_404 tw_405 tw_1 hd_N_above rfl ⟨(Nat.le_of_ble_eq_true rfl), (Nat.le_of_ble_eq_true rfl)⟩ ⟨(Nat.le_of_ble_eq_true rfl), (Nat.le_of_ble_eq_true rfl)⟩ (Nat.le_of_ble_eq_true rfl) rfl 92 rfl (by decide +kernel) [.long r39, .long (σ.2.1 b25 2)] rfl ?_
          refine v_land C 93 rfl (by decide +kernel) ?_
          obtain ⟨r41, σ40, hcr41, hf⟩ := cl2_e hf
          refine v_cS C [.long ((σ.2.1 b25 2) &&& r39)] [] (c_Long_bitCount G l σ38 ((σ.2.1 b25 2) &&& r39) hcr41) 213 1 tw_410 tw_408 tw_409 tw_12 hd_Long_bitCount rfl ⟨(Nat.le_of_ble_eq_true rfl), (Nat.le_of_ble_eq_true rfl)⟩ ⟨(Nat.le_of_ble_eq_true rfl), (Nat.le_of_ble_eq_true rfl)⟩ (Nat.le_of_ble_eq_true rfl) rfl 96 rfl (by decide +kernel) [.int r41] rfl ?_
          cases hf
          exact v_iret C hr (by decide +kernel)
        · have hf := ite2_f hf h37
          by_cases h42 : x2 = 5
          · have hf := ite2_t hf h42
            refine v_tswI C (104) (1) (5) #[(35), (40), (56), (72), (88)] 35 97 (5) h42 (by decide) (by decide) (88) (by decide) (by decide) (by decide +kernel) ?_
            refine v_aload_n C 3 0 rfl 98 rfl (by decide +kernel) ?_
            refine v_getJN C 1 2 rfl nin_1 (ns_kd_lt hk_b25 (by decide)) hk_b25 (by decide) (by decide) rfl 349 tw_53 rfl 101 rfl (by decide +kernel) ?_
            refine v_aload_n C 1 2 rfl 102 rfl (by decide +kernel) ?_
            refine v_getIN C 2 2 rfl nin_2 (ns_kd_lt hk_a1 (by decide)) hk_a1 (by decide) (by decide) rfl 179 tw_93 rfl 105 rfl (by decide +kernel) ?_
            obtain ⟨r44, σ43, hcr44, hf⟩ := cl2_e hf
            refine v_cS C [.int (σ.1 a1 2)] [.long (σ.2.1 b25 2)] (c_N_above G l σ (σ.1 a1 2) hcr44) 346 1 tw_406 tw_404 tw_405 tw_1 hd_N_above rfl ⟨(Nat.le_of_ble_eq_true rfl), (Nat.le_of_ble_eq_true rfl)⟩ ⟨(Nat.le_of_ble_eq_true rfl), (Nat.le_of_ble_eq_true rfl)⟩ (Nat.le_of_ble_eq_true rfl) rfl 108 rfl (by decide +kernel) [.long r44, .long (σ.2.1 b25 2)] rfl ?_
            refine v_land C 109 rfl (by decide +kernel) ?_
            obtain ⟨r46, σ45, hcr46, hf⟩ := cl2_e hf
            refine v_cS C [.long ((σ.2.1 b25 2) &&& r44)] [] (c_N_firstOf G l σ43 ((σ.2.1 b25 2) &&& r44) hcr46) 238 1 tw_416 tw_414 tw_415 tw_1 hd_N_firstOf rfl ⟨(Nat.le_of_ble_eq_true rfl), (Nat.le_of_ble_eq_true rfl)⟩ ⟨(Nat.le_of_ble_eq_true rfl), (Nat.le_of_ble_eq_true rfl)⟩ (Nat.le_of_ble_eq_true rfl) rfl 112 rfl (by decide +kernel) [.int r46] rfl ?_
            cases hf
            exact v_iret C hr (by decide +kernel)
          · have hf := ite2_f hf h42
            refine v_tswO C (104) (1) (5) #[(35), (40), (56), (72), (88)] 35 113 (ns_out x2 (1) (5) (fun k h1 h2 => by
              have h3 : k = 1 ∨ k = 2 ∨ k = 3 ∨ k = 4 ∨ k = 5 := by omega
              rcases h3 with rfl | rfl | rfl | rfl | rfl
              · exact h26
              · exact h27
              · exact h32
              · exact h37
              · exact h42)) (by decide) (by decide +kernel) ?_
            refine v_aload_n C 1 2 rfl 114 rfl (by decide +kernel) ?_
            refine v_getIN C 2 1 rfl nin_2 (ns_kd_lt hk_a1 (by decide)) hk_a1 (by decide) (by decide) rfl 176 tw_86 rfl 117 rfl (by decide +kernel) ?_
            cases hf
            exact v_iret C hr (by decide +kernel)
theorem hd_N_saidAs : (⟨"NinthStep", "saidAs", "(LNinthStep$Mule;I)I"⟩ : MethodName).cls = "NinthStep" ∧ (⟨"NinthStep", "saidAs", "(LNinthStep$Mule;I)I"⟩ : MethodName).cls ≠ "java/lang/invoke/MethodHandle" ∧ (⟨"NinthStep", "saidAs", "(LNinthStep$Mule;I)I"⟩ : MethodName).cls ≠ "java/lang/invoke/VarHandle" ∧ (parseMethodDescriptor (⟨"NinthStep", "saidAs", "(LNinthStep$Mule;I)I"⟩ : MethodName).desc).map (fun d => d.parameters.length) = some 2 := by decide +kernel
def g_N_lastOf (σ : ns_St) (x0 : Int64) : Option (Int32 × ns_St) := ite2 ((lg_cmp x0 (0 : Int64)) = 0) (some ((-1 : Int32), σ)) (cl2 (g_Long_numberOfLeadingZeros σ x0) fun r6 σ5 => some (((63 : Int32) - r6), σ5))
theorem c_N_lastOf (G : ns_G) (l : Launch) (σ : ns_St) (x0 : Int64) {r : Int32} {σ' : ns_St} (hf : g_N_lastOf σ x0 = some (r, σ')) : ns_ok G l ⟨"NinthStep", "lastOf", "(J)I"⟩ prog_1_method_74_code 2 (some .int) 2 43 0 0 [.long x0] ns_N σ (some (.int r)) ns_N σ' := by
  refine v_open (by decide) (Nat.le_of_ble_eq_true rfl) rfl ?_
  intro p e s m below meth c C hr _
  have C : ns_Cx G p s m _ meth c prog_1_method_74_code "NinthStep" 2 := C
  unfold g_N_lastOf at hf
  refine v_lload_n C 0 0 rfl 1 rfl (by decide +kernel) ?_
  refine v_lconst C 0 (0) (by decide) 2 rfl (by decide +kernel) ?_
  refine v_lcmp C 3 rfl (by decide +kernel) ?_
  refine v_if_ne C 10 6 rfl (by decide +kernel) (fun h4 => ?_) (fun h4 => ?_)
  · have hf := ite2_f hf h4
    refine v_bipush C (63) (63) (by decide) 12 rfl (by decide +kernel) ?_
    refine v_lload_n C 0 0 rfl 13 rfl (by decide +kernel) ?_
    obtain ⟨r6, σ5, hcr6, hf⟩ := cl2_e hf
    refine v_cS C [.long x0] [.int (63 : Int32)] (c_Long_numberOfLeadingZeros G l σ x0 hcr6) 384 1 tw_437 tw_435 tw_436 tw_12 hd_Long_numberOfLeadingZeros rfl ⟨(Nat.le_of_ble_eq_true rfl), (Nat.le_of_ble_eq_true rfl)⟩ ⟨(Nat.le_of_ble_eq_true rfl), (Nat.le_of_ble_eq_true rfl)⟩ (Nat.le_of_ble_eq_true rfl) rfl 16 rfl (by decide +kernel) [.int r6, .int (63 : Int32)] rfl ?_
    refine v_isub C 17 rfl (by decide +kernel) ?_
    cases hf
    exact v_iret C hr (by decide +kernel)
  · have hf := ite2_t hf h4
    refine v_iconst C (-1) (-1) (by decide) 7 rfl (by decide +kernel) ?_
    refine v_goto C 17 (by decide +kernel) ?_
    cases hf
    exact v_iret C hr (by decide +kernel)
theorem hd_N_lastOf : (⟨"NinthStep", "lastOf", "(J)I"⟩ : MethodName).cls ≠ "java/lang/invoke/MethodHandle" ∧ (⟨"NinthStep", "lastOf", "(J)I"⟩ : MethodName).cls ≠ "java/lang/invoke/VarHandle" ∧ (parseMethodDescriptor (⟨"NinthStep", "lastOf", "(J)I"⟩ : MethodName).desc).map (fun d => d.parameters.length) = some 1 := by decide +kernel
def g_Ground_highest (σ : ns_St) (a0 : Nat) : Option (Int32 × ns_St) := grd (ns_kd a0 = 1) <| cl2 (g_N_lastOf σ ((((σ.2.1 a0 1) ||| (σ.2.1 a0 2)) ||| (σ.2.1 a0 3)) ||| (σ.2.1 a0 4))) fun r4 σ3 => some (r4, σ3)
theorem c_Ground_highest (G : ns_G) (l : Launch) (σ : ns_St) (a0 : Nat) {r : Int32} {σ' : ns_St} (hf : g_Ground_highest σ a0 = some (r, σ')) : ns_ok G l ⟨"NinthStep$Ground", "highest", "()I"⟩ prog_3_method_6_code 1 (some .int) 3 64 0 0 [.ref (G.1 + a0)] ns_N σ (some (.int r)) ns_N σ' := by
  refine v_open (by decide) (Nat.le_of_ble_eq_true rfl) rfl ?_
  intro p e s m below meth c C hr _
  have C : ns_Cx G p s m _ meth c prog_3_method_6_code "NinthStep$Ground" 1 := C
  unfold g_Ground_highest at hf
  obtain ⟨hk_a0, hf⟩ := grd_e hf
  refine v_aload_n C 0 0 rfl 1 rfl (by decide +kernel) ?_
  refine v_getJ C 1 1 rfl nin_1 (ns_kd_lt hk_a0 (by decide)) hk_a0 (by decide) (by decide) rfl 15 tw_46 rfl 4 rfl (by decide +kernel) ?_
  refine v_aload_n C 0 0 rfl 5 rfl (by decide +kernel) ?_
  refine v_getJ C 1 2 rfl nin_1 (ns_kd_lt hk_a0 (by decide)) hk_a0 (by decide) (by decide) rfl 19 tw_51 rfl 8 rfl (by decide +kernel) ?_
  refine v_lor C 9 rfl (by decide +kernel) ?_
  refine v_aload_n C 0 0 rfl 10 rfl (by decide +kernel) ?_
  refine v_getJ C 1 3 rfl nin_1 (ns_kd_lt hk_a0 (by decide)) hk_a0 (by decide) (by decide) rfl 22 tw_54 rfl 13 rfl (by decide +kernel) ?_
  refine v_lor C 14 rfl (by decide +kernel) ?_
  refine v_aload_n C 0 0 rfl 15 rfl (by decide +kernel) ?_
  refine v_getJ C 1 4 rfl nin_1 (ns_kd_lt hk_a0 (by decide)) hk_a0 (by decide) (by decide) rfl 25 tw_61 rfl 18 rfl (by decide +kernel) ?_
  refine v_lor C 19 rfl (by decide +kernel) ?_
  obtain ⟨r4, σ3, hcr4, hf⟩ := cl2_e hf
  refine v_cSN C [.long ((((σ.2.1 a0 1) ||| (σ.2.1 a0 2)) ||| (σ.2.1 a0 3)) ||| (σ.2.1 a0 4))] [] (c_N_lastOf G l σ ((((σ.2.1 a0 1) ||| (σ.2.1 a0 2)) ||| (σ.2.1 a0 3)) ||| (σ.2.1 a0 4)) hcr4) 41 1 tw_434 tw_432 tw_433 tw_1 hd_N_lastOf rfl ⟨(Nat.le_of_ble_eq_true rfl), (Nat.le_of_ble_eq_true rfl)⟩ ⟨(Nat.le_of_ble_eq_true rfl), (Nat.le_of_ble_eq_true rfl)⟩ (Nat.le_of_ble_eq_true rfl) rfl 22 rfl (by decide +kernel) [.int r4] rfl ?_
  cases hf
  exact v_iret C hr (by decide +kernel)
theorem hd_Ground_highest : (⟨"NinthStep$Ground", "highest", "()I"⟩ : MethodName).cls = "NinthStep$Ground" ∧ (⟨"NinthStep$Ground", "highest", "()I"⟩ : MethodName).cls ≠ "java/lang/invoke/MethodHandle" ∧ (⟨"NinthStep$Ground", "highest", "()I"⟩ : MethodName).cls ≠ "java/lang/invoke/VarHandle" ∧ (parseMethodDescriptor (⟨"NinthStep$Ground", "highest", "()I"⟩ : MethodName).desc).map (fun d => d.parameters.length) = some 0 := by decide +kernel
def g_N_length (σ : ns_St) (a0 : Nat) (x1 : Int32) : Option (Int32 × ns_St) := grd (ns_kd a0 = 8) <| cl2 (g_N_isWithin σ x1 (1 : Int32) (60 : Int32)) fun r24 σ23 => ite2 (r24 = 0) (cl2 (g_N_refuse σ23 a0 (-2 : Int32)) fun r44 σ43 => some (r44, σ43)) (drf (σ23.2.2 a0 0) fun b26 => grd (ns_kd b26 = 7) <| ite2 (0 < (σ23.1 b26 2)) (cl2 (g_N_refuse σ23 a0 (-5 : Int32)) fun r29 σ28 => some (r29, σ28)) (drf (σ23.2.2 a0 0) fun b30 => grd (ns_kd b30 = 7) <| drf (σ23.2.2 b30 0) fun b31 => grd (ns_kd b31 = 1) <| cl2 (g_Ground_highest σ23 b31) fun r33 σ32 => ite2 (r33 ≤ x1) (drf (σ32.2.2 a0 0) fun b35 => grd (ns_kd b35 = 7) <| drf (σ32.2.2 b35 0) fun b36 => grd (ns_kd b36 = 1) <| bnd (σ32.1 b36 0) fun z37 => drf (σ32.2.2 a0 0) fun b38 => grd (ns_kd b38 = 7) <| drf (σ32.2.2 b38 0) fun b39 => grd (ns_kd b39 = 1) <| bnd (ns_pI σ32 b39 0 x1) fun σ40 => some (z37, σ40)) (cl2 (g_N_refuse σ32 a0 (-5 : Int32)) fun r42 σ41 => some (r42, σ41))))
theorem c_N_length (G : ns_G) (l : Launch) (σ : ns_St) (a0 : Nat) (x1 : Int32) {r : Int32} {σ' : ns_St} (hf : g_N_length σ a0 x1 = some (r, σ')) : ns_ok G l ⟨"NinthStep", "length", "(I)I"⟩ prog_1_method_9_code 3 (some .int) 4 84 0 0 [.ref (G.1 + a0), .int x1] ns_N σ (some (.int r)) ns_N σ' := by
  refine v_open (by decide) (Nat.le_of_ble_eq_true rfl) rfl ?_
  intro p e s m below meth c C hr _
  have C : ns_Cx G p s m _ meth c prog_1_method_9_code "NinthStep" 3 := C
  unfold g_N_length at hf
  obtain ⟨hk_a0, hf⟩ := grd_e hf
  refine v_iload_n C 1 1 rfl 1 rfl (by decide +kernel) ?_
  refine v_iconst C (1) (1) (by decide) 2 rfl (by decide +kernel) ?_
  refine v_bipush C (60) (60) (by decide) 4 rfl (by decide +kernel) ?_
  obtain ⟨r24, σ23, hcr24, hf⟩ := cl2_e hf
  refine v_cS C [.int x1, .int (1 : Int32), .int (60 : Int32)] [] (c_N_isWithin G l σ x1 (1 : Int32) (60 : Int32) hcr24) 75 3 tw_334 tw_332 tw_333 tw_1 hd_N_isWithin rfl ⟨(Nat.le_of_ble_eq_true rfl), (Nat.le_of_ble_eq_true rfl)⟩ ⟨(Nat.le_of_ble_eq_true rfl), (Nat.le_of_ble_eq_true rfl)⟩ (Nat.le_of_ble_eq_true rfl) rfl 7 rfl (by decide +kernel) [.int r24] rfl ?_
  refine v_if_ne C 17 10 rfl (by decide +kernel) (fun h25 => ?_) (fun h25 => ?_)
  · have hf := ite2_f hf h25
    refine v_aload_n C 0 0 rfl 18 rfl (by decide +kernel) ?_
    obtain ⟨b26, hb26, hf⟩ := drf_e hf
    obtain ⟨hk_b26, hf⟩ := grd_e hf
    refine v_getR C 8 0 hb26 rfl nin_8 (ns_kd_lt hk_a0 (by decide)) hk_a0 (by decide) (by decide) rfl 12 tw_287 rfl 21 rfl (by decide +kernel) ?_
    refine v_getIN C 7 2 rfl nin_7 (ns_kd_lt hk_b26 (by decide)) hk_b26 (by decide) (by decide) rfl 135 tw_135 rfl 24 rfl (by decide +kernel) ?_
    refine v_if_gt C 41 27 rfl (by decide +kernel) (fun h27 => ?_) (fun h27 => ?_)
    · have hf := ite2_t hf h27
      refine v_aload_n C 0 0 rfl 42 rfl (by decide +kernel) ?_
      refine v_bipush C (-5) (-5) (by decide) 44 rfl (by decide +kernel) ?_
      obtain ⟨r29, σ28, hcr29, hf⟩ := cl2_e hf
      refine v_cV C 8 rfl (ns_kd_lt hk_a0 (by decide)) hk_a0 (by decide) [.int (-5 : Int32)] [] (c_N_refuse G l σ23 a0 (-5 : Int32) hcr29) 79 1 tw_338 tw_335 tw_337 ts_1 tw_1 hd_N_refuse rfl ⟨(Nat.le_of_ble_eq_true rfl), (Nat.le_of_ble_eq_true rfl)⟩ ⟨(Nat.le_of_ble_eq_true rfl), (Nat.le_of_ble_eq_true rfl)⟩ (Nat.le_of_ble_eq_true rfl) rfl 47 rfl (by decide +kernel) [.int r29] rfl ?_
      cases hf
      exact v_iret C hr (by decide +kernel)
    · have hf := ite2_f hf h27
      refine v_aload_n C 0 0 rfl 28 rfl (by decide +kernel) ?_
      obtain ⟨b30, hb30, hf⟩ := drf_e hf
      obtain ⟨hk_b30, hf⟩ := grd_e hf
      refine v_getR C 8 0 hb30 rfl nin_8 (ns_kd_lt hk_a0 (by decide)) hk_a0 (by decide) (by decide) rfl 12 tw_287 rfl 31 rfl (by decide +kernel) ?_
      obtain ⟨b31, hb31, hf⟩ := drf_e hf
      obtain ⟨hk_b31, hf⟩ := grd_e hf
      refine v_getRN C 7 0 hb31 rfl nin_7 (ns_kd_lt hk_b30 (by decide)) hk_b30 (by decide) (by decide) rfl 138 tw_128 rfl 34 rfl (by decide +kernel) ?_
      obtain ⟨r33, σ32, hcr33, hf⟩ := cl2_e hf
      refine v_cVN C 1 rfl (ns_kd_lt hk_b31 (by decide)) hk_b31 (by decide) [] [] (c_Ground_highest G l σ23 b31 hcr33) 142 0 tw_431 tw_428 tw_430 ts_9 tw_3 hd_Ground_highest rfl ⟨(Nat.le_of_ble_eq_true rfl), (Nat.le_of_ble_eq_true rfl)⟩ ⟨(Nat.le_of_ble_eq_true rfl), (Nat.le_of_ble_eq_true rfl)⟩ (Nat.le_of_ble_eq_true rfl) rfl 37 rfl (by decide +kernel) [.int r33] rfl ?_
      refine v_iload_n C 1 1 rfl 38 rfl (by decide +kernel) ?_
      refine v_icmp_le C 48 41 rfl (by decide +kernel) (fun h34 => ?_) (fun h34 => ?_)
      · have hf := ite2_t hf h34
        refine v_aload_n C 0 0 rfl 49 rfl (by decide +kernel) ?_
        obtain ⟨b35, hb35, hf⟩ := drf_e hf
        obtain ⟨hk_b35, hf⟩ := grd_e hf
        refine v_getR C 8 0 hb35 rfl nin_8 (ns_kd_lt hk_a0 (by decide)) hk_a0 (by decide) (by decide) rfl 12 tw_287 rfl 52 rfl (by decide +kernel) ?_
        obtain ⟨b36, hb36, hf⟩ := drf_e hf
        obtain ⟨hk_b36, hf⟩ := grd_e hf
        refine v_getRN C 7 0 hb36 rfl nin_7 (ns_kd_lt hk_b35 (by decide)) hk_b35 (by decide) (by decide) rfl 138 tw_128 rfl 55 rfl (by decide +kernel) ?_
        refine v_getIN C 1 0 rfl nin_1 (ns_kd_lt hk_b36 (by decide)) hk_b36 (by decide) (by decide) rfl 147 tw_45 rfl 58 rfl (by decide +kernel) ?_
        obtain ⟨z37, hz37, hf⟩ := bnd_e hf
        refine v_nmI hz37 ?_
        refine v_istore_n C 2 [(2, .int z37), (0, .ref (G.1 + a0)), (1, .int x1)] (by decide) rfl 59 rfl (by decide +kernel) ?_
        refine v_aload_n C 0 1 rfl 60 rfl (by decide +kernel) ?_
        obtain ⟨b38, hb38, hf⟩ := drf_e hf
        obtain ⟨hk_b38, hf⟩ := grd_e hf
        refine v_getR C 8 0 hb38 rfl nin_8 (ns_kd_lt hk_a0 (by decide)) hk_a0 (by decide) (by decide) rfl 12 tw_287 rfl 63 rfl (by decide +kernel) ?_
        obtain ⟨b39, hb39, hf⟩ := drf_e hf
        obtain ⟨hk_b39, hf⟩ := grd_e hf
        refine v_getRN C 7 0 hb39 rfl nin_7 (ns_kd_lt hk_b38 (by decide)) hk_b38 (by decide) (by decide) rfl 138 tw_128 rfl 66 rfl (by decide +kernel) ?_
        refine v_iload_n C 1 2 rfl 67 rfl (by decide +kernel) ?_
        obtain ⟨σ40, hσ40, hf⟩ := bnd_e hf
        refine v_putIN C 1 0 hσ40 rfl nin_1 ny_1 nty_1 nnm_1 (ns_kd_lt hk_b39 (by decide)) hk_b39 (by decide) (by decide) rfl rfl rfl rfl 147 tw_45 rfl 70 rfl (by decide +kernel) ?_
        refine v_iload_n C 2 0 rfl 71 rfl (by decide +kernel) ?_
        cases hf
        exact v_iret C hr (by decide +kernel)
      · have hf := ite2_f hf h34
        refine v_aload_n C 0 0 rfl 42 rfl (by decide +kernel) ?_
        refine v_bipush C (-5) (-5) (by decide) 44 rfl (by decide +kernel) ?_
        obtain ⟨r42, σ41, hcr42, hf⟩ := cl2_e hf
        refine v_cV C 8 rfl (ns_kd_lt hk_a0 (by decide)) hk_a0 (by decide) [.int (-5 : Int32)] [] (c_N_refuse G l σ32 a0 (-5 : Int32) hcr42) 79 1 tw_338 tw_335 tw_337 ts_1 tw_1 hd_N_refuse rfl ⟨(Nat.le_of_ble_eq_true rfl), (Nat.le_of_ble_eq_true rfl)⟩ ⟨(Nat.le_of_ble_eq_true rfl), (Nat.le_of_ble_eq_true rfl)⟩ (Nat.le_of_ble_eq_true rfl) rfl 47 rfl (by decide +kernel) [.int r42] rfl ?_
        cases hf
        exact v_iret C hr (by decide +kernel)
  · have hf := ite2_t hf h25
    refine v_aload_n C 0 0 rfl 11 rfl (by decide +kernel) ?_
    refine v_bipush C (-2) (-2) (by decide) 13 rfl (by decide +kernel) ?_
    obtain ⟨r44, σ43, hcr44, hf⟩ := cl2_e hf
    refine v_cV C 8 rfl (ns_kd_lt hk_a0 (by decide)) hk_a0 (by decide) [.int (-2 : Int32)] [] (c_N_refuse G l σ23 a0 (-2 : Int32) hcr44) 79 1 tw_338 tw_335 tw_337 ts_1 tw_1 hd_N_refuse rfl ⟨(Nat.le_of_ble_eq_true rfl), (Nat.le_of_ble_eq_true rfl)⟩ ⟨(Nat.le_of_ble_eq_true rfl), (Nat.le_of_ble_eq_true rfl)⟩ (Nat.le_of_ble_eq_true rfl) rfl 16 rfl (by decide +kernel) [.int r44] rfl ?_
    cases hf
    exact v_iret C hr (by decide +kernel)
theorem hd_N_length : (⟨"NinthStep", "length", "(I)I"⟩ : MethodName).cls = "NinthStep" ∧ (⟨"NinthStep", "length", "(I)I"⟩ : MethodName).cls ≠ "java/lang/invoke/MethodHandle" ∧ (⟨"NinthStep", "length", "(I)I"⟩ : MethodName).cls ≠ "java/lang/invoke/VarHandle" ∧ (parseMethodDescriptor (⟨"NinthStep", "length", "(I)I"⟩ : MethodName).desc).map (fun d => d.parameters.length) = some 1 := by decide +kernel
def g_N_isPlace (σ : ns_St) (a0 : Nat) (x1 : Int32) : Option (Int32 × ns_St) := grd (ns_kd a0 = 8) <| drf (σ.2.2 a0 0) fun b6 => grd (ns_kd b6 = 7) <| drf (σ.2.2 b6 0) fun b7 => grd (ns_kd b7 = 1) <| cl2 (g_N_isWithin σ x1 (0 : Int32) (σ.1 b7 0)) fun r9 σ8 => grd (r9 = 0 ∨ r9 = 1) <| some (r9, σ8)
theorem c_N_isPlace (G : ns_G) (l : Launch) (σ : ns_St) (a0 : Nat) (x1 : Int32) {r : Int32} {σ' : ns_St} (hf : g_N_isPlace σ a0 x1 = some (r, σ')) : ns_ok G l ⟨"NinthStep", "isPlace", "(I)Z"⟩ prog_1_method_51_code 2 (some .boolean) 1 22 0 0 [.ref (G.1 + a0), .int x1] ns_N σ (some (.int r)) ns_N σ' := by
  refine v_open (by decide) (Nat.le_of_ble_eq_true rfl) rfl ?_
  intro p e s m below meth c C hr _
  have C : ns_Cx G p s m _ meth c prog_1_method_51_code "NinthStep" 2 := C
  unfold g_N_isPlace at hf
  obtain ⟨hk_a0, hf⟩ := grd_e hf
  refine v_iload_n C 1 1 rfl 1 rfl (by decide +kernel) ?_
  refine v_iconst C (0) (0) (by decide) 2 rfl (by decide +kernel) ?_
  refine v_aload_n C 0 0 rfl 3 rfl (by decide +kernel) ?_
  obtain ⟨b6, hb6, hf⟩ := drf_e hf
  obtain ⟨hk_b6, hf⟩ := grd_e hf
  refine v_getR C 8 0 hb6 rfl nin_8 (ns_kd_lt hk_a0 (by decide)) hk_a0 (by decide) (by decide) rfl 12 tw_287 rfl 6 rfl (by decide +kernel) ?_
  obtain ⟨b7, hb7, hf⟩ := drf_e hf
  obtain ⟨hk_b7, hf⟩ := grd_e hf
  refine v_getRN C 7 0 hb7 rfl nin_7 (ns_kd_lt hk_b6 (by decide)) hk_b6 (by decide) (by decide) rfl 138 tw_128 rfl 9 rfl (by decide +kernel) ?_
  refine v_getIN C 1 0 rfl nin_1 (ns_kd_lt hk_b7 (by decide)) hk_b7 (by decide) (by decide) rfl 147 tw_45 rfl 12 rfl (by decide +kernel) ?_
  obtain ⟨r9, σ8, hcr9, hf⟩ := cl2_e hf
  refine v_cS C [.int x1, .int (0 : Int32), .int (σ.1 b7 0)] [] (c_N_isWithin G l σ x1 (0 : Int32) (σ.1 b7 0) hcr9) 75 3 tw_334 tw_332 tw_333 tw_1 hd_N_isWithin rfl ⟨(Nat.le_of_ble_eq_true rfl), (Nat.le_of_ble_eq_true rfl)⟩ ⟨(Nat.le_of_ble_eq_true rfl), (Nat.le_of_ble_eq_true rfl)⟩ (Nat.le_of_ble_eq_true rfl) rfl 15 rfl (by decide +kernel) [.int r9] rfl ?_
  obtain ⟨hz10, hf⟩ := grd_e hf
  cases hf
  exact v_zret C hr (ns_z01 hz10) (by decide +kernel)
theorem hd_N_isPlace : (⟨"NinthStep", "isPlace", "(I)Z"⟩ : MethodName).cls = "NinthStep" ∧ (⟨"NinthStep", "isPlace", "(I)Z"⟩ : MethodName).cls ≠ "java/lang/invoke/MethodHandle" ∧ (⟨"NinthStep", "isPlace", "(I)Z"⟩ : MethodName).cls ≠ "java/lang/invoke/VarHandle" ∧ (parseMethodDescriptor (⟨"NinthStep", "isPlace", "(I)Z"⟩ : MethodName).desc).map (fun d => d.parameters.length) = some 1 := by decide +kernel
def g_N_isIn (σ : ns_St) (x0 : Int64) (x2 : Int32) : Option (Int32 × ns_St) := ite2 ((lg_cmp (((x0.toUInt64 >>> (x2.toInt64.toUInt64 &&& Int64.toUInt64 63)).toInt64) &&& (1 : Int64)) (0 : Int64)) = 0) (some ((0 : Int32), σ)) (some ((1 : Int32), σ))
theorem c_N_isIn (G : ns_G) (l : Launch) (σ : ns_St) (x0 : Int64) (x2 : Int32) {r : Int32} {σ' : ns_St} (hf : g_N_isIn σ x0 x2 = some (r, σ')) : ns_ok G l ⟨"NinthStep", "isIn", "(JI)Z"⟩ prog_1_method_70_code 3 (some .boolean) 0 0 0 0 [.long x0, .int x2] ns_N σ (some (.int r)) ns_N σ' := by
  refine v_open (by decide) (Nat.le_of_ble_eq_true rfl) rfl ?_
  intro p e s m below meth c C hr _
  have C : ns_Cx G p s m _ meth c prog_1_method_70_code "NinthStep" 3 := C
  unfold g_N_isIn at hf
  refine v_lload_n C 0 0 rfl 1 rfl (by decide +kernel) ?_
  refine v_iload_n C 2 1 rfl 2 rfl (by decide +kernel) ?_
  refine v_lushr C 3 rfl (by decide +kernel) ?_
  refine v_lconst C 1 (1) (by decide) 4 rfl (by decide +kernel) ?_
  refine v_land C 5 rfl (by decide +kernel) ?_
  refine v_lconst C 0 (0) (by decide) 6 rfl (by decide +kernel) ?_
  refine v_lcmp C 7 rfl (by decide +kernel) ?_
  refine v_if_eq C 14 10 rfl (by decide +kernel) (fun h2 => ?_) (fun h2 => ?_)
  · have hf := ite2_t hf h2
    refine v_iconst C (0) (0) (by decide) 15 rfl (by decide +kernel) ?_
    cases hf
    exact v_zret C hr rfl (by decide +kernel)
  · have hf := ite2_f hf h2
    refine v_iconst C (1) (1) (by decide) 11 rfl (by decide +kernel) ?_
    refine v_goto C 15 (by decide +kernel) ?_
    cases hf
    exact v_zret C hr rfl (by decide +kernel)
theorem hd_N_isIn : (⟨"NinthStep", "isIn", "(JI)Z"⟩ : MethodName).cls ≠ "java/lang/invoke/MethodHandle" ∧ (⟨"NinthStep", "isIn", "(JI)Z"⟩ : MethodName).cls ≠ "java/lang/invoke/VarHandle" ∧ (parseMethodDescriptor (⟨"NinthStep", "isIn", "(JI)Z"⟩ : MethodName).desc).map (fun d => d.parameters.length) = some 2 := by decide +kernel
def g_Ground_forbids_16  (σ : ns_St) (a0 : Nat) (x1 : Int32) (x2 : Int32) : Option (Int32 × ns_St) := ite2 (x1 = (3 : Int32)) (cl2 (g_N_isIn σ (σ.2.1 a0 3) x2) fun r11 σ10 => ite2 (r11 = 0) (some ((0 : Int32), σ10)) (some ((1 : Int32), σ10))) (some ((0 : Int32), σ))
def g_Ground_forbids (σ : ns_St) (a0 : Nat) (x1 : Int32) (x2 : Int32) : Option (Int32 × ns_St) := grd (ns_kd a0 = 1) <| ite2 (x1 = (2 : Int32)) (cl2 (g_N_isIn σ (σ.2.1 a0 4) x2) fun r15 σ14 => ite2 (r15 = 0) (g_Ground_forbids_16 σ14 a0 x1 x2) (some ((1 : Int32), σ14))) (g_Ground_forbids_16 σ a0 x1 x2)
theorem t_Ground_forbids_16 (G : ns_G) (l : Launch) {p : Program} {e : Env} {s : State} {m : MethodId} {args : Array Value} {below : List Frame} {meth : Method} {c : Code} (C : ns_Cx G p s m args meth c prog_3_method_5_code "NinthStep$Ground" 3) (hr : meth.sig.returnType = (some .boolean)) {r : Int32} {σ' : ns_St}  (σ : ns_St) (a0 : Nat) (x1 : Int32) (x2 : Int32) (hk_a0 : ns_kd a0 = 1) (hf : g_Ground_forbids_16 σ a0 x1 x2 = some (r, σ')) : VV G p l e { frames := 1, cells := 0, slots := 0, locals := 22 } s m args below meth c 3 0 0 (MQ below (ns_Qc G (some (.int r)) ns_N σ') args s 0 0 (ns_A G)) ns_N σ 16 [(0, .ref (G.1 + a0)), (1, .int x1), (2, .int x2)] [] := by
  unfold g_Ground_forbids_16 at hf
  refine v_iload_n C 1 1 rfl 17 rfl (by decide +kernel) ?_
  refine v_iconst C (3) (3) (by decide) 18 rfl (by decide +kernel) ?_
  refine v_icmp_ne C 36 21 rfl (by decide +kernel) (fun h9 => ?_) (fun h9 => ?_)
  · have hf := ite2_f hf h9
    refine v_iconst C (0) (0) (by decide) 37 rfl (by decide +kernel) ?_
    cases hf
    exact v_zret C hr rfl (by decide +kernel)
  · have hf := ite2_t hf h9
    refine v_aload_n C 0 0 rfl 22 rfl (by decide +kernel) ?_
    refine v_getJ C 1 3 rfl nin_1 (ns_kd_lt hk_a0 (by decide)) hk_a0 (by decide) (by decide) rfl 22 tw_54 rfl 25 rfl (by decide +kernel) ?_
    refine v_iload_n C 2 2 rfl 26 rfl (by decide +kernel) ?_
    obtain ⟨r11, σ10, hcr11, hf⟩ := cl2_e hf
    refine v_cSN C [.long (σ.2.1 a0 3), .int x2] [] (c_N_isIn G l σ (σ.2.1 a0 3) x2 hcr11) 37 2 tw_455 tw_453 tw_454 tw_1 hd_N_isIn rfl ⟨(Nat.le_of_ble_eq_true rfl), (Nat.le_of_ble_eq_true rfl)⟩ ⟨(Nat.le_of_ble_eq_true rfl), (Nat.le_of_ble_eq_true rfl)⟩ (Nat.le_of_ble_eq_true rfl) rfl 29 rfl (by decide +kernel) [.int r11] rfl ?_
    refine v_if_eq C 36 32 rfl (by decide +kernel) (fun h12 => ?_) (fun h12 => ?_)
    · have hf := ite2_t hf h12
      refine v_iconst C (0) (0) (by decide) 37 rfl (by decide +kernel) ?_
      cases hf
      exact v_zret C hr rfl (by decide +kernel)
    · have hf := ite2_f hf h12
      refine v_iconst C (1) (1) (by decide) 33 rfl (by decide +kernel) ?_
      refine v_goto C 37 (by decide +kernel) ?_
      cases hf
      exact v_zret C hr rfl (by decide +kernel)
theorem c_Ground_forbids (G : ns_G) (l : Launch) (σ : ns_St) (a0 : Nat) (x1 : Int32) (x2 : Int32) {r : Int32} {σ' : ns_St} (hf : g_Ground_forbids σ a0 x1 x2 = some (r, σ')) : ns_ok G l ⟨"NinthStep$Ground", "forbids", "(II)Z"⟩ prog_3_method_5_code 3 (some .boolean) 1 22 0 0 [.ref (G.1 + a0), .int x1, .int x2] ns_N σ (some (.int r)) ns_N σ' := by
  refine v_open (by decide) (Nat.le_of_ble_eq_true rfl) rfl ?_
  intro p e s m below meth c C hr _
  have C : ns_Cx G p s m _ meth c prog_3_method_5_code "NinthStep$Ground" 3 := C
  unfold g_Ground_forbids at hf
  obtain ⟨hk_a0, hf⟩ := grd_e hf
  refine v_iload_n C 1 1 rfl 1 rfl (by decide +kernel) ?_
  refine v_iconst C (2) (2) (by decide) 2 rfl (by decide +kernel) ?_
  refine v_icmp_ne C 16 5 rfl (by decide +kernel) (fun h13 => ?_) (fun h13 => ?_)
  · have hf := ite2_f hf h13
    exact t_Ground_forbids_16 G l C hr  σ a0 x1 x2 hk_a0 hf
  · have hf := ite2_t hf h13
    refine v_aload_n C 0 0 rfl 6 rfl (by decide +kernel) ?_
    refine v_getJ C 1 4 rfl nin_1 (ns_kd_lt hk_a0 (by decide)) hk_a0 (by decide) (by decide) rfl 25 tw_61 rfl 9 rfl (by decide +kernel) ?_
    refine v_iload_n C 2 2 rfl 10 rfl (by decide +kernel) ?_
    obtain ⟨r15, σ14, hcr15, hf⟩ := cl2_e hf
    refine v_cSN C [.long (σ.2.1 a0 4), .int x2] [] (c_N_isIn G l σ (σ.2.1 a0 4) x2 hcr15) 37 2 tw_455 tw_453 tw_454 tw_1 hd_N_isIn rfl ⟨(Nat.le_of_ble_eq_true rfl), (Nat.le_of_ble_eq_true rfl)⟩ ⟨(Nat.le_of_ble_eq_true rfl), (Nat.le_of_ble_eq_true rfl)⟩ (Nat.le_of_ble_eq_true rfl) rfl 13 rfl (by decide +kernel) [.int r15] rfl ?_
    refine v_if_ne C 32 16 rfl (by decide +kernel) (fun h16 => ?_) (fun h16 => ?_)
    · have hf := ite2_f hf h16
      refine v_iconst C (1) (1) (by decide) 33 rfl (by decide +kernel) ?_
      refine v_goto C 37 (by decide +kernel) ?_
      cases hf
      exact v_zret C hr rfl (by decide +kernel)
    · have hf := ite2_t hf h16
      exact t_Ground_forbids_16 G l C hr  σ14 a0 x1 x2 hk_a0 hf
theorem hd_Ground_forbids : (⟨"NinthStep$Ground", "forbids", "(II)Z"⟩ : MethodName).cls = "NinthStep$Ground" ∧ (⟨"NinthStep$Ground", "forbids", "(II)Z"⟩ : MethodName).cls ≠ "java/lang/invoke/MethodHandle" ∧ (⟨"NinthStep$Ground", "forbids", "(II)Z"⟩ : MethodName).cls ≠ "java/lang/invoke/VarHandle" ∧ (parseMethodDescriptor (⟨"NinthStep$Ground", "forbids", "(II)Z"⟩ : MethodName).desc).map (fun d => d.parameters.length) = some 2 := by decide +kernel
def g_Ground_allOf (σ : ns_St) (a0 : Nat) (x1 : Int32) : Option (Int64 × ns_St) := grd (ns_kd a0 = 1) <| ite2 (x1 = 0) (some ((σ.2.1 a0 1), σ)) (ite2 (x1 = 1) (some ((σ.2.1 a0 2), σ)) (ite2 (x1 = 2) (some ((σ.2.1 a0 3), σ)) (some ((σ.2.1 a0 4), σ))))
theorem c_Ground_allOf (G : ns_G) (l : Launch) (σ : ns_St) (a0 : Nat) (x1 : Int32) {r : Int64} {σ' : ns_St} (hf : g_Ground_allOf σ a0 x1 = some (r, σ')) : ns_ok G l ⟨"NinthStep$Ground", "allOf", "(I)J"⟩ prog_3_method_3_code 2 (some .long) 0 0 0 0 [.ref (G.1 + a0), .int x1] ns_N σ (some (.long r)) ns_N σ' := by
  refine v_open (by decide) (Nat.le_of_ble_eq_true rfl) rfl ?_
  intro p e s m below meth c C hr _
  have C : ns_Cx G p s m _ meth c prog_3_method_3_code "NinthStep$Ground" 2 := C
  unfold g_Ground_allOf at hf
  obtain ⟨hk_a0, hf⟩ := grd_e hf
  refine v_iload_n C 1 1 rfl 1 rfl (by decide +kernel) ?_
  by_cases h4 : x1 = 0
  · have hf := ite2_t hf h4
    refine v_tswI C (42) (0) (2) #[(27), (32), (37)] 27 28 (0) h4 (by decide) (by decide) (27) (by decide) (by decide) (by decide +kernel) ?_
    refine v_aload_n C 0 0 rfl 29 rfl (by decide +kernel) ?_
    refine v_getJ C 1 1 rfl nin_1 (ns_kd_lt hk_a0 (by decide)) hk_a0 (by decide) (by decide) rfl 15 tw_46 rfl 32 rfl (by decide +kernel) ?_
    cases hf
    exact v_lret C hr (by decide +kernel)
  · have hf := ite2_f hf h4
    by_cases h5 : x1 = 1
    · have hf := ite2_t hf h5
      refine v_tswI C (42) (0) (2) #[(27), (32), (37)] 27 33 (1) h5 (by decide) (by decide) (32) (by decide) (by decide) (by decide +kernel) ?_
      refine v_aload_n C 0 0 rfl 34 rfl (by decide +kernel) ?_
      refine v_getJ C 1 2 rfl nin_1 (ns_kd_lt hk_a0 (by decide)) hk_a0 (by decide) (by decide) rfl 19 tw_51 rfl 37 rfl (by decide +kernel) ?_
      cases hf
      exact v_lret C hr (by decide +kernel)
    · have hf := ite2_f hf h5
      by_cases h6 : x1 = 2
      · have hf := ite2_t hf h6
        refine v_tswI C (42) (0) (2) #[(27), (32), (37)] 27 38 (2) h6 (by decide) (by decide) (37) (by decide) (by decide) (by decide +kernel) ?_
        refine v_aload_n C 0 0 rfl 39 rfl (by decide +kernel) ?_
        refine v_getJ C 1 3 rfl nin_1 (ns_kd_lt hk_a0 (by decide)) hk_a0 (by decide) (by decide) rfl 22 tw_54 rfl 42 rfl (by decide +kernel) ?_
        cases hf
        exact v_lret C hr (by decide +kernel)
      · have hf := ite2_f hf h6
        refine v_tswO C (42) (0) (2) #[(27), (32), (37)] 27 43 (ns_out x1 (0) (2) (fun k h1 h2 => by
          have h3 : k = 0 ∨ k = 1 ∨ k = 2 := by omega
          rcases h3 with rfl | rfl | rfl
          · exact h4
          · exact h5
          · exact h6)) (by decide) (by decide +kernel) ?_
        refine v_aload_n C 0 0 rfl 44 rfl (by decide +kernel) ?_
        refine v_getJ C 1 4 rfl nin_1 (ns_kd_lt hk_a0 (by decide)) hk_a0 (by decide) (by decide) rfl 25 tw_61 rfl 47 rfl (by decide +kernel) ?_
        cases hf
        exact v_lret C hr (by decide +kernel)
theorem hd_Ground_allOf : (⟨"NinthStep$Ground", "allOf", "(I)J"⟩ : MethodName).cls = "NinthStep$Ground" ∧ (⟨"NinthStep$Ground", "allOf", "(I)J"⟩ : MethodName).cls ≠ "java/lang/invoke/MethodHandle" ∧ (⟨"NinthStep$Ground", "allOf", "(I)J"⟩ : MethodName).cls ≠ "java/lang/invoke/VarHandle" ∧ (parseMethodDescriptor (⟨"NinthStep$Ground", "allOf", "(I)J"⟩ : MethodName).desc).map (fun d => d.parameters.length) = some 1 := by decide +kernel
def g_N_bit (σ : ns_St) (x0 : Int32) : Option (Int64 × ns_St) := some (((1 : Int64) <<< (x0.toInt64 &&& 63)), σ)
theorem c_N_bit (G : ns_G) (l : Launch) (σ : ns_St) (x0 : Int32) {r : Int64} {σ' : ns_St} (hf : g_N_bit σ x0 = some (r, σ')) : ns_ok G l ⟨"NinthStep", "bit", "(I)J"⟩ prog_1_method_72_code 1 (some .long) 0 0 0 0 [.int x0] ns_N σ (some (.long r)) ns_N σ' := by
  refine v_open (by decide) (Nat.le_of_ble_eq_true rfl) rfl ?_
  intro p e s m below meth c C hr _
  have C : ns_Cx G p s m _ meth c prog_1_method_72_code "NinthStep" 1 := C
  unfold g_N_bit at hf
  refine v_lconst C 1 (1) (by decide) 1 rfl (by decide +kernel) ?_
  refine v_iload_n C 0 0 rfl 2 rfl (by decide +kernel) ?_
  refine v_lshl C 3 rfl (by decide +kernel) ?_
  cases hf
  exact v_lret C hr (by decide +kernel)
theorem hd_N_bit : (⟨"NinthStep", "bit", "(I)J"⟩ : MethodName).cls ≠ "java/lang/invoke/MethodHandle" ∧ (⟨"NinthStep", "bit", "(I)J"⟩ : MethodName).cls ≠ "java/lang/invoke/VarHandle" ∧ (parseMethodDescriptor (⟨"NinthStep", "bit", "(I)J"⟩ : MethodName).desc).map (fun d => d.parameters.length) = some 1 := by decide +kernel
def g_Ground_mark_31  (σ : ns_St) (s0 : Int64) (a0 : Nat) (x1 : Int32) : Option (Unit × ns_St) := ite2 (x1 = 0) (bnd (ns_pJ σ a0 1 s0) fun σ18 => some ((), σ18)) (ite2 (x1 = 1) (bnd (ns_pJ σ a0 2 s0) fun σ20 => some ((), σ20)) (ite2 (x1 = 2) (bnd (ns_pJ σ a0 3 s0) fun σ22 => some ((), σ22)) (bnd (ns_pJ σ a0 4 s0) fun σ23 => some ((), σ23))))
def g_Ground_mark (σ : ns_St) (a0 : Nat) (x1 : Int32) (x2 : Int32) (x3 : Int32) : Option (Unit × ns_St) := grd (ns_kd a0 = 1) <| ite2 (x3 = 0) (cl2 (g_Ground_allOf σ a0 x1) fun r26 σ25 => cl2 (g_N_bit σ25 x2) fun r28 σ27 => g_Ground_mark_31 σ27 (r26 &&& (r28 ^^^ (-1 : Int64))) a0 x1) (cl2 (g_Ground_allOf σ a0 x1) fun r30 σ29 => cl2 (g_N_bit σ29 x2) fun r32 σ31 => g_Ground_mark_31 σ31 (r30 ||| r32) a0 x1)
theorem t_Ground_mark_31 (G : ns_G) (l : Launch) {p : Program} {e : Env} {s : State} {m : MethodId} {args : Array Value} {below : List Frame} {meth : Method} {c : Code} (C : ns_Cx G p s m args meth c prog_3_method_4_code "NinthStep$Ground" 6) (hr : meth.sig.returnType = none) {r : Unit} {σ' : ns_St}  (σ : ns_St) (s0 : Int64) (a0 : Nat) (x1 : Int32) (hk_a0 : ns_kd a0 = 1) (hf : g_Ground_mark_31 σ s0 a0 x1 = some (r, σ')) : VV G p l e { frames := 1, cells := 0, slots := 0, locals := 21 } s m args below meth c 6 0 0 (MQ below (ns_Qc G none ns_N σ') args s 0 0 (ns_A G)) ns_N σ 31 [(0, .ref (G.1 + a0)), (1, .int x1)] [.long s0] := by
  unfold g_Ground_mark_31 at hf
  refine v_lstore C 4 [(4, .long s0), (0, .ref (G.1 + a0)), (1, .int x1)] (by decide) rfl 33 rfl (by decide +kernel) ?_
  refine v_iload_n C 1 2 rfl 34 rfl (by decide +kernel) ?_
  by_cases h17 : x1 = 0
  · have hf := ite2_t hf h17
    refine v_tswI C (53) (0) (2) #[(26), (35), (44)] 26 60 (0) h17 (by decide) (by decide) (26) (by decide) (by decide) (by decide +kernel) ?_
    refine v_aload_n C 0 1 rfl 61 rfl (by decide +kernel) ?_
    refine v_lload C 4 0 rfl 63 rfl (by decide +kernel) ?_
    obtain ⟨σ18, hσ18, hf⟩ := bnd_e hf
    refine v_putJ C 1 1 hσ18 rfl nin_1 ny_1 nty_1 nnm_1 (ns_kd_lt hk_a0 (by decide)) hk_a0 (by decide) (by decide) rfl rfl rfl rfl 15 tw_46 rfl 66 rfl (by decide +kernel) ?_
    refine v_goto C 93 (by decide +kernel) ?_
    cases hf
    exact v_vret C hr (by decide +kernel)
  · have hf := ite2_f hf h17
    by_cases h19 : x1 = 1
    · have hf := ite2_t hf h19
      refine v_tswI C (53) (0) (2) #[(26), (35), (44)] 26 69 (1) h19 (by decide) (by decide) (35) (by decide) (by decide) (by decide +kernel) ?_
      refine v_aload_n C 0 1 rfl 70 rfl (by decide +kernel) ?_
      refine v_lload C 4 0 rfl 72 rfl (by decide +kernel) ?_
      obtain ⟨σ20, hσ20, hf⟩ := bnd_e hf
      refine v_putJ C 1 2 hσ20 rfl nin_1 ny_1 nty_1 nnm_1 (ns_kd_lt hk_a0 (by decide)) hk_a0 (by decide) (by decide) rfl rfl rfl rfl 19 tw_51 rfl 75 rfl (by decide +kernel) ?_
      refine v_goto C 93 (by decide +kernel) ?_
      cases hf
      exact v_vret C hr (by decide +kernel)
    · have hf := ite2_f hf h19
      by_cases h21 : x1 = 2
      · have hf := ite2_t hf h21
        refine v_tswI C (53) (0) (2) #[(26), (35), (44)] 26 78 (2) h21 (by decide) (by decide) (44) (by decide) (by decide) (by decide +kernel) ?_
        refine v_aload_n C 0 1 rfl 79 rfl (by decide +kernel) ?_
        refine v_lload C 4 0 rfl 81 rfl (by decide +kernel) ?_
        obtain ⟨σ22, hσ22, hf⟩ := bnd_e hf
        refine v_putJ C 1 3 hσ22 rfl nin_1 ny_1 nty_1 nnm_1 (ns_kd_lt hk_a0 (by decide)) hk_a0 (by decide) (by decide) rfl rfl rfl rfl 22 tw_54 rfl 84 rfl (by decide +kernel) ?_
        refine v_goto C 93 (by decide +kernel) ?_
        cases hf
        exact v_vret C hr (by decide +kernel)
      · have hf := ite2_f hf h21
        refine v_tswO C (53) (0) (2) #[(26), (35), (44)] 26 87 (ns_out x1 (0) (2) (fun k h1 h2 => by
          have h3 : k = 0 ∨ k = 1 ∨ k = 2 := by omega
          rcases h3 with rfl | rfl | rfl
          · exact h17
          · exact h19
          · exact h21)) (by decide) (by decide +kernel) ?_
        refine v_aload_n C 0 1 rfl 88 rfl (by decide +kernel) ?_
        refine v_lload C 4 0 rfl 90 rfl (by decide +kernel) ?_
        obtain ⟨σ23, hσ23, hf⟩ := bnd_e hf
        refine v_putJ C 1 4 hσ23 rfl nin_1 ny_1 nty_1 nnm_1 (ns_kd_lt hk_a0 (by decide)) hk_a0 (by decide) (by decide) rfl rfl rfl rfl 25 tw_61 rfl 93 rfl (by decide +kernel) ?_
        cases hf
        exact v_vret C hr (by decide +kernel)
theorem c_Ground_mark (G : ns_G) (l : Launch) (σ : ns_St) (a0 : Nat) (x1 : Int32) (x2 : Int32) (x3 : Int32) {r : Unit} {σ' : ns_St} (hf : g_Ground_mark σ a0 x1 x2 x3 = some (r, σ')) : ns_ok G l ⟨"NinthStep$Ground", "mark", "(IIZ)V"⟩ prog_3_method_4_code 6 none 1 21 0 0 [.ref (G.1 + a0), .int x1, .int x2, .int x3] ns_N σ none ns_N σ' := by
  refine v_open (by decide) (Nat.le_of_ble_eq_true rfl) rfl ?_
  intro p e s m below meth c C hr _
  have C : ns_Cx G p s m _ meth c prog_3_method_4_code "NinthStep$Ground" 6 := C
  unfold g_Ground_mark at hf
  obtain ⟨hk_a0, hf⟩ := grd_e hf
  refine v_iload_n C 3 3 rfl 1 rfl (by decide +kernel) ?_
  refine v_if_eq C 17 4 rfl (by decide +kernel) (fun h24 => ?_) (fun h24 => ?_)
  · have hf := ite2_t hf h24
    refine v_aload_n C 0 0 rfl 18 rfl (by decide +kernel) ?_
    refine v_iload_n C 1 1 rfl 19 rfl (by decide +kernel) ?_
    obtain ⟨r26, σ25, hcr26, hf⟩ := cl2_e hf
    refine v_cV C 1 rfl (ns_kd_lt hk_a0 (by decide)) hk_a0 (by decide) [.int x1] [] (c_Ground_allOf G l σ a0 x1 hcr26) 28 1 tw_459 tw_465 tw_458 ts_12 tw_3 hd_Ground_allOf rfl ⟨(Nat.le_of_ble_eq_true rfl), (Nat.le_of_ble_eq_true rfl)⟩ ⟨(Nat.le_of_ble_eq_true rfl), (Nat.le_of_ble_eq_true rfl)⟩ (Nat.le_of_ble_eq_true rfl) rfl 22 rfl (by decide +kernel) [.long r26] rfl ?_
    refine v_iload_n C 2 2 rfl 23 rfl (by decide +kernel) ?_
    obtain ⟨r28, σ27, hcr28, hf⟩ := cl2_e hf
    refine v_cSN C [.int x2] [.long r26] (c_N_bit G l σ25 x2 hcr28) 32 1 tw_468 tw_466 tw_467 tw_1 hd_N_bit rfl ⟨(Nat.le_of_ble_eq_true rfl), (Nat.le_of_ble_eq_true rfl)⟩ ⟨(Nat.le_of_ble_eq_true rfl), (Nat.le_of_ble_eq_true rfl)⟩ (Nat.le_of_ble_eq_true rfl) rfl 26 rfl (by decide +kernel) [.long r28, .long r26] rfl ?_
    refine v_ldc2 C 35 (-1) tw_469 29 rfl (by decide +kernel) ?_
    refine v_lxor C 30 rfl (by decide +kernel) ?_
    refine v_land C 31 rfl (by decide +kernel) ?_
    refine v_sub [0, 1] rfl ?_
    exact t_Ground_mark_31 G l C hr  σ27 (r26 &&& (r28 ^^^ (-1 : Int64))) a0 x1 hk_a0 hf
  · have hf := ite2_f hf h24
    refine v_aload_n C 0 0 rfl 5 rfl (by decide +kernel) ?_
    refine v_iload_n C 1 1 rfl 6 rfl (by decide +kernel) ?_
    obtain ⟨r30, σ29, hcr30, hf⟩ := cl2_e hf
    refine v_cV C 1 rfl (ns_kd_lt hk_a0 (by decide)) hk_a0 (by decide) [.int x1] [] (c_Ground_allOf G l σ a0 x1 hcr30) 28 1 tw_459 tw_465 tw_458 ts_12 tw_3 hd_Ground_allOf rfl ⟨(Nat.le_of_ble_eq_true rfl), (Nat.le_of_ble_eq_true rfl)⟩ ⟨(Nat.le_of_ble_eq_true rfl), (Nat.le_of_ble_eq_true rfl)⟩ (Nat.le_of_ble_eq_true rfl) rfl 9 rfl (by decide +kernel) [.long r30] rfl ?_
    refine v_iload_n C 2 2 rfl 10 rfl (by decide +kernel) ?_
    obtain ⟨r32, σ31, hcr32, hf⟩ := cl2_e hf
    refine v_cSN C [.int x2] [.long r30] (c_N_bit G l σ29 x2 hcr32) 32 1 tw_468 tw_466 tw_467 tw_1 hd_N_bit rfl ⟨(Nat.le_of_ble_eq_true rfl), (Nat.le_of_ble_eq_true rfl)⟩ ⟨(Nat.le_of_ble_eq_true rfl), (Nat.le_of_ble_eq_true rfl)⟩ (Nat.le_of_ble_eq_true rfl) rfl 13 rfl (by decide +kernel) [.long r32, .long r30] rfl ?_
    refine v_lor C 14 rfl (by decide +kernel) ?_
    refine v_goto C 31 (by decide +kernel) ?_
    refine v_sub [0, 1] rfl ?_
    exact t_Ground_mark_31 G l C hr  σ31 (r30 ||| r32) a0 x1 hk_a0 hf
theorem hd_Ground_mark : (⟨"NinthStep$Ground", "mark", "(IIZ)V"⟩ : MethodName).cls = "NinthStep$Ground" ∧ (⟨"NinthStep$Ground", "mark", "(IIZ)V"⟩ : MethodName).cls ≠ "java/lang/invoke/MethodHandle" ∧ (⟨"NinthStep$Ground", "mark", "(IIZ)V"⟩ : MethodName).cls ≠ "java/lang/invoke/VarHandle" ∧ (parseMethodDescriptor (⟨"NinthStep$Ground", "mark", "(IIZ)V"⟩ : MethodName).desc).map (fun d => d.parameters.length) = some 3 := by decide +kernel
def g_N_put_50  (σ : ns_St) (a0 : Nat) (x1 : Int32) (x2 : Int32) (x3 : Int32) : Option (Int32 × ns_St) := drf (σ.2.2 a0 0) fun b30 => grd (ns_kd b30 = 7) <| drf (σ.2.2 b30 0) fun b31 => grd (ns_kd b31 = 1) <| cl2 (g_Ground_allOf σ b31 x2) fun r33 σ32 => cl2 (g_N_isIn σ32 r33 x1) fun r35 σ34 => ite2 (r35 = x3) (some ((0 : Int32), σ34)) (drf (σ34.2.2 a0 0) fun b37 => grd (ns_kd b37 = 7) <| drf (σ34.2.2 b37 0) fun b38 => grd (ns_kd b38 = 1) <| cl2 (g_Ground_mark σ34 b38 x2 x1 x3) fun r40 σ39 => some ((1 : Int32), σ39))
def g_N_put (σ : ns_St) (a0 : Nat) (x1 : Int32) (x2 : Int32) (x3 : Int32) : Option (Int32 × ns_St) := grd (ns_kd a0 = 8) <| cl2 (g_N_isPlace σ a0 x1) fun r42 σ41 => ite2 (r42 = 0) (cl2 (g_N_refuse σ41 a0 (-2 : Int32)) fun r45 σ44 => some (r45, σ44)) (cl2 (g_N_isWithin σ41 x2 (0 : Int32) (3 : Int32)) fun r47 σ46 => ite2 (r47 = 0) (cl2 (g_N_refuse σ46 a0 (-2 : Int32)) fun r58 σ57 => some (r58, σ57)) (ite2 (x3 = 0) (g_N_put_50 σ46 a0 x1 x2 x3) (drf (σ46.2.2 a0 0) fun b50 => grd (ns_kd b50 = 7) <| drf (σ46.2.2 b50 0) fun b51 => grd (ns_kd b51 = 1) <| cl2 (g_Ground_forbids σ46 b51 x2 x1) fun r53 σ52 => ite2 (r53 = 0) (g_N_put_50 σ52 a0 x1 x2 x3) (cl2 (g_N_refuse σ52 a0 (-5 : Int32)) fun r56 σ55 => some (r56, σ55)))))
theorem t_N_put_50 (G : ns_G) (l : Launch) {p : Program} {e : Env} {s : State} {m : MethodId} {args : Array Value} {below : List Frame} {meth : Method} {c : Code} (C : ns_Cx G p s m args meth c prog_1_method_10_code "NinthStep" 4) (hr : meth.sig.returnType = (some .int)) {r : Int32} {σ' : ns_St}  (σ : ns_St) (a0 : Nat) (x1 : Int32) (x2 : Int32) (x3 : Int32) (hk_a0 : ns_kd a0 = 8) (hf : g_N_put_50 σ a0 x1 x2 x3 = some (r, σ')) : VV G p l e { frames := 2, cells := 0, slots := 0, locals := 46 } s m args below meth c 4 0 0 (MQ below (ns_Qc G (some (.int r)) ns_N σ') args s 0 0 (ns_A G)) ns_N σ 50 [(0, .ref (G.1 + a0)), (1, .int x1), (2, .int x2), (3, .int x3)] [] := by
  unfold g_N_put_50 at hf
  refine v_aload_n C 0 0 rfl 51 rfl (by decide +kernel) ?_
  obtain ⟨b30, hb30, hf⟩ := drf_e hf
  obtain ⟨hk_b30, hf⟩ := grd_e hf
  refine v_getR C 8 0 hb30 rfl nin_8 (ns_kd_lt hk_a0 (by decide)) hk_a0 (by decide) (by decide) rfl 12 tw_287 rfl 54 rfl (by decide +kernel) ?_
  obtain ⟨b31, hb31, hf⟩ := drf_e hf
  obtain ⟨hk_b31, hf⟩ := grd_e hf
  refine v_getRN C 7 0 hb31 rfl nin_7 (ns_kd_lt hk_b30 (by decide)) hk_b30 (by decide) (by decide) rfl 138 tw_128 rfl 57 rfl (by decide +kernel) ?_
  refine v_iload_n C 2 2 rfl 58 rfl (by decide +kernel) ?_
  obtain ⟨r33, σ32, hcr33, hf⟩ := cl2_e hf
  refine v_cVN C 1 rfl (ns_kd_lt hk_b31 (by decide)) hk_b31 (by decide) [.int x2] [] (c_Ground_allOf G l σ b31 x2 hcr33) 157 1 tw_459 tw_456 tw_458 ts_12 tw_3 hd_Ground_allOf rfl ⟨(Nat.le_of_ble_eq_true rfl), (Nat.le_of_ble_eq_true rfl)⟩ ⟨(Nat.le_of_ble_eq_true rfl), (Nat.le_of_ble_eq_true rfl)⟩ (Nat.le_of_ble_eq_true rfl) rfl 61 rfl (by decide +kernel) [.long r33] rfl ?_
  refine v_iload_n C 1 1 rfl 62 rfl (by decide +kernel) ?_
  obtain ⟨r35, σ34, hcr35, hf⟩ := cl2_e hf
  refine v_cS C [.long r33, .int x1] [] (c_N_isIn G l σ32 r33 x1 hcr35) 160 2 tw_455 tw_460 tw_454 tw_1 hd_N_isIn rfl ⟨(Nat.le_of_ble_eq_true rfl), (Nat.le_of_ble_eq_true rfl)⟩ ⟨(Nat.le_of_ble_eq_true rfl), (Nat.le_of_ble_eq_true rfl)⟩ (Nat.le_of_ble_eq_true rfl) rfl 65 rfl (by decide +kernel) [.int r35] rfl ?_
  refine v_iload_n C 3 3 rfl 66 rfl (by decide +kernel) ?_
  refine v_icmp_ne C 71 69 rfl (by decide +kernel) (fun h36 => ?_) (fun h36 => ?_)
  · have hf := ite2_f hf h36
    refine v_aload_n C 0 0 rfl 72 rfl (by decide +kernel) ?_
    obtain ⟨b37, hb37, hf⟩ := drf_e hf
    obtain ⟨hk_b37, hf⟩ := grd_e hf
    refine v_getR C 8 0 hb37 rfl nin_8 (ns_kd_lt hk_a0 (by decide)) hk_a0 (by decide) (by decide) rfl 12 tw_287 rfl 75 rfl (by decide +kernel) ?_
    obtain ⟨b38, hb38, hf⟩ := drf_e hf
    obtain ⟨hk_b38, hf⟩ := grd_e hf
    refine v_getRN C 7 0 hb38 rfl nin_7 (ns_kd_lt hk_b37 (by decide)) hk_b37 (by decide) (by decide) rfl 138 tw_128 rfl 78 rfl (by decide +kernel) ?_
    refine v_iload_n C 2 2 rfl 79 rfl (by decide +kernel) ?_
    refine v_iload_n C 1 1 rfl 80 rfl (by decide +kernel) ?_
    refine v_iload_n C 3 3 rfl 81 rfl (by decide +kernel) ?_
    obtain ⟨r40, σ39, hcr40, hf⟩ := cl2_e hf
    refine v_cVN C 1 rfl (ns_kd_lt hk_b38 (by decide)) hk_b38 (by decide) [.int x2, .int x1, .int x3] [] (c_Ground_mark G l σ34 b38 x2 x1 x3 hcr40) 164 3 tw_464 tw_461 tw_463 ts_13 tw_3 hd_Ground_mark rfl ⟨(Nat.le_of_ble_eq_true rfl), (Nat.le_of_ble_eq_true rfl)⟩ ⟨(Nat.le_of_ble_eq_true rfl), (Nat.le_of_ble_eq_true rfl)⟩ (Nat.le_of_ble_eq_true rfl) rfl 84 rfl (by decide +kernel) [] rfl ?_
    refine v_iconst C (1) (1) (by decide) 85 rfl (by decide +kernel) ?_
    cases hf
    exact v_iret C hr (by decide +kernel)
  · have hf := ite2_t hf h36
    refine v_iconst C (0) (0) (by decide) 70 rfl (by decide +kernel) ?_
    cases hf
    exact v_iret C hr (by decide +kernel)
theorem c_N_put (G : ns_G) (l : Launch) (σ : ns_St) (a0 : Nat) (x1 : Int32) (x2 : Int32) (x3 : Int32) {r : Int32} {σ' : ns_St} (hf : g_N_put σ a0 x1 x2 x3 = some (r, σ')) : ns_ok G l ⟨"NinthStep", "put", "(IIZ)I"⟩ prog_1_method_10_code 4 (some .int) 2 46 0 0 [.ref (G.1 + a0), .int x1, .int x2, .int x3] ns_N σ (some (.int r)) ns_N σ' := by
  refine v_open (by decide) (Nat.le_of_ble_eq_true rfl) rfl ?_
  intro p e s m below meth c C hr _
  have C : ns_Cx G p s m _ meth c prog_1_method_10_code "NinthStep" 4 := C
  unfold g_N_put at hf
  obtain ⟨hk_a0, hf⟩ := grd_e hf
  refine v_aload_n C 0 0 rfl 1 rfl (by decide +kernel) ?_
  refine v_iload_n C 1 1 rfl 2 rfl (by decide +kernel) ?_
  obtain ⟨r42, σ41, hcr42, hf⟩ := cl2_e hf
  refine v_cV C 8 rfl (ns_kd_lt hk_a0 (by decide)) hk_a0 (by decide) [.int x1] [] (c_N_isPlace G l σ a0 x1 hcr42) 150 1 tw_448 tw_445 tw_447 ts_10 tw_1 hd_N_isPlace rfl ⟨(Nat.le_of_ble_eq_true rfl), (Nat.le_of_ble_eq_true rfl)⟩ ⟨(Nat.le_of_ble_eq_true rfl), (Nat.le_of_ble_eq_true rfl)⟩ (Nat.le_of_ble_eq_true rfl) rfl 5 rfl (by decide +kernel) [.int r42] rfl ?_
  refine v_if_eq C 17 8 rfl (by decide +kernel) (fun h43 => ?_) (fun h43 => ?_)
  · have hf := ite2_t hf h43
    refine v_aload_n C 0 0 rfl 18 rfl (by decide +kernel) ?_
    refine v_bipush C (-2) (-2) (by decide) 20 rfl (by decide +kernel) ?_
    obtain ⟨r45, σ44, hcr45, hf⟩ := cl2_e hf
    refine v_cV C 8 rfl (ns_kd_lt hk_a0 (by decide)) hk_a0 (by decide) [.int (-2 : Int32)] [] (c_N_refuse G l σ41 a0 (-2 : Int32) hcr45) 79 1 tw_338 tw_335 tw_337 ts_1 tw_1 hd_N_refuse rfl ⟨(Nat.le_of_ble_eq_true rfl), (Nat.le_of_ble_eq_true rfl)⟩ ⟨(Nat.le_of_ble_eq_true rfl), (Nat.le_of_ble_eq_true rfl)⟩ (Nat.le_of_ble_eq_true rfl) rfl 23 rfl (by decide +kernel) [.int r45] rfl ?_
    cases hf
    exact v_iret C hr (by decide +kernel)
  · have hf := ite2_f hf h43
    refine v_iload_n C 2 2 rfl 9 rfl (by decide +kernel) ?_
    refine v_iconst C (0) (0) (by decide) 10 rfl (by decide +kernel) ?_
    refine v_iconst C (3) (3) (by decide) 11 rfl (by decide +kernel) ?_
    obtain ⟨r47, σ46, hcr47, hf⟩ := cl2_e hf
    refine v_cS C [.int x2, .int (0 : Int32), .int (3 : Int32)] [] (c_N_isWithin G l σ41 x2 (0 : Int32) (3 : Int32) hcr47) 75 3 tw_334 tw_332 tw_333 tw_1 hd_N_isWithin rfl ⟨(Nat.le_of_ble_eq_true rfl), (Nat.le_of_ble_eq_true rfl)⟩ ⟨(Nat.le_of_ble_eq_true rfl), (Nat.le_of_ble_eq_true rfl)⟩ (Nat.le_of_ble_eq_true rfl) rfl 14 rfl (by decide +kernel) [.int r47] rfl ?_
    refine v_if_ne C 24 17 rfl (by decide +kernel) (fun h48 => ?_) (fun h48 => ?_)
    · have hf := ite2_f hf h48
      refine v_iload_n C 3 3 rfl 25 rfl (by decide +kernel) ?_
      refine v_if_eq C 50 28 rfl (by decide +kernel) (fun h49 => ?_) (fun h49 => ?_)
      · have hf := ite2_t hf h49
        exact t_N_put_50 G l C hr  σ46 a0 x1 x2 x3 hk_a0 hf
      · have hf := ite2_f hf h49
        refine v_aload_n C 0 0 rfl 29 rfl (by decide +kernel) ?_
        obtain ⟨b50, hb50, hf⟩ := drf_e hf
        obtain ⟨hk_b50, hf⟩ := grd_e hf
        refine v_getR C 8 0 hb50 rfl nin_8 (ns_kd_lt hk_a0 (by decide)) hk_a0 (by decide) (by decide) rfl 12 tw_287 rfl 32 rfl (by decide +kernel) ?_
        obtain ⟨b51, hb51, hf⟩ := drf_e hf
        obtain ⟨hk_b51, hf⟩ := grd_e hf
        refine v_getRN C 7 0 hb51 rfl nin_7 (ns_kd_lt hk_b50 (by decide)) hk_b50 (by decide) (by decide) rfl 138 tw_128 rfl 35 rfl (by decide +kernel) ?_
        refine v_iload_n C 2 2 rfl 36 rfl (by decide +kernel) ?_
        refine v_iload_n C 1 1 rfl 37 rfl (by decide +kernel) ?_
        obtain ⟨r53, σ52, hcr53, hf⟩ := cl2_e hf
        refine v_cVN C 1 rfl (ns_kd_lt hk_b51 (by decide)) hk_b51 (by decide) [.int x2, .int x1] [] (c_Ground_forbids G l σ46 b51 x2 x1 hcr53) 154 2 tw_452 tw_449 tw_451 ts_11 tw_3 hd_Ground_forbids rfl ⟨(Nat.le_of_ble_eq_true rfl), (Nat.le_of_ble_eq_true rfl)⟩ ⟨(Nat.le_of_ble_eq_true rfl), (Nat.le_of_ble_eq_true rfl)⟩ (Nat.le_of_ble_eq_true rfl) rfl 40 rfl (by decide +kernel) [.int r53] rfl ?_
        refine v_if_eq C 50 43 rfl (by decide +kernel) (fun h54 => ?_) (fun h54 => ?_)
        · have hf := ite2_t hf h54
          exact t_N_put_50 G l C hr  σ52 a0 x1 x2 x3 hk_a0 hf
        · have hf := ite2_f hf h54
          refine v_aload_n C 0 0 rfl 44 rfl (by decide +kernel) ?_
          refine v_bipush C (-5) (-5) (by decide) 46 rfl (by decide +kernel) ?_
          obtain ⟨r56, σ55, hcr56, hf⟩ := cl2_e hf
          refine v_cV C 8 rfl (ns_kd_lt hk_a0 (by decide)) hk_a0 (by decide) [.int (-5 : Int32)] [] (c_N_refuse G l σ52 a0 (-5 : Int32) hcr56) 79 1 tw_338 tw_335 tw_337 ts_1 tw_1 hd_N_refuse rfl ⟨(Nat.le_of_ble_eq_true rfl), (Nat.le_of_ble_eq_true rfl)⟩ ⟨(Nat.le_of_ble_eq_true rfl), (Nat.le_of_ble_eq_true rfl)⟩ (Nat.le_of_ble_eq_true rfl) rfl 49 rfl (by decide +kernel) [.int r56] rfl ?_
          cases hf
          exact v_iret C hr (by decide +kernel)
    · have hf := ite2_t hf h48
      refine v_aload_n C 0 0 rfl 18 rfl (by decide +kernel) ?_
      refine v_bipush C (-2) (-2) (by decide) 20 rfl (by decide +kernel) ?_
      obtain ⟨r58, σ57, hcr58, hf⟩ := cl2_e hf
      refine v_cV C 8 rfl (ns_kd_lt hk_a0 (by decide)) hk_a0 (by decide) [.int (-2 : Int32)] [] (c_N_refuse G l σ46 a0 (-2 : Int32) hcr58) 79 1 tw_338 tw_335 tw_337 ts_1 tw_1 hd_N_refuse rfl ⟨(Nat.le_of_ble_eq_true rfl), (Nat.le_of_ble_eq_true rfl)⟩ ⟨(Nat.le_of_ble_eq_true rfl), (Nat.le_of_ble_eq_true rfl)⟩ (Nat.le_of_ble_eq_true rfl) rfl 23 rfl (by decide +kernel) [.int r58] rfl ?_
      cases hf
      exact v_iret C hr (by decide +kernel)
theorem hd_N_put : (⟨"NinthStep", "put", "(IIZ)I"⟩ : MethodName).cls = "NinthStep" ∧ (⟨"NinthStep", "put", "(IIZ)I"⟩ : MethodName).cls ≠ "java/lang/invoke/MethodHandle" ∧ (⟨"NinthStep", "put", "(IIZ)I"⟩ : MethodName).cls ≠ "java/lang/invoke/VarHandle" ∧ (parseMethodDescriptor (⟨"NinthStep", "put", "(IIZ)I"⟩ : MethodName).desc).map (fun d => d.parameters.length) = some 3 := by decide +kernel
def g_World_newMule (σ : ns_St) (a0 : Nat) : Option (Option Nat × ns_St) := grd (ns_kd a0 = 7) <| ite2 ((σ.1 a0 2) < (6 : Int32)) (bnd (ns_pI σ a0 2 ((σ.1 a0 2) + (1 : Int32))) fun σ7 => drf (σ7.2.2 a0 1) fun b8 => grd (ns_kd b8 = 12) <| grd (ns_in ((σ7.1 a0 2) - (1 : Int32)) (ns_ln b8)) <| drf (σ7.2.2 b8 (ns_ix ((σ7.1 a0 2) - (1 : Int32)))) fun b10 => grd (ns_kd b10 = 2) <| some ((some b10), σ7)) (some (none, σ))
theorem c_World_newMule (G : ns_G) (l : Launch) (σ : ns_St) (a0 : Nat) {r : Option Nat} {σ' : ns_St} (hf : g_World_newMule σ a0 = some (r, σ')) : ns_ok G l ⟨"NinthStep$World", "newMule", "()LNinthStep$Mule;"⟩ prog_9_method_4_code 1 (some (.object "NinthStep$Mule")) 0 0 0 0 [.ref (G.1 + a0)] ns_N σ (some (va_rf (ns_rf G.1 r))) ns_N σ' := by
  refine v_open (by decide) (Nat.le_of_ble_eq_true rfl) rfl ?_
  intro p e s m below meth c C hr _
  have C : ns_Cx G p s m _ meth c prog_9_method_4_code "NinthStep$World" 1 := C
  unfold g_World_newMule at hf
  obtain ⟨hk_a0, hf⟩ := grd_e hf
  refine v_aload_n C 0 0 rfl 1 rfl (by decide +kernel) ?_
  refine v_getI C 7 2 rfl nin_7 (ns_kd_lt hk_a0 (by decide)) hk_a0 (by decide) (by decide) rfl 36 tw_133 rfl 4 rfl (by decide +kernel) ?_
  refine v_bipush C (6) (6) (by decide) 6 rfl (by decide +kernel) ?_
  refine v_icmp_lt C 11 9 rfl (by decide +kernel) (fun h6 => ?_) (fun h6 => ?_)
  · have hf := ite2_t hf h6
    refine v_aload_n C 0 0 rfl 12 rfl (by decide +kernel) ?_
    refine v_dup C rfl 13 rfl (by decide +kernel) ?_
    refine v_getI C 7 2 rfl nin_7 (ns_kd_lt hk_a0 (by decide)) hk_a0 (by decide) (by decide) rfl 36 tw_133 rfl 16 rfl (by decide +kernel) ?_
    refine v_iconst C (1) (1) (by decide) 17 rfl (by decide +kernel) ?_
    refine v_iadd C 18 rfl (by decide +kernel) ?_
    obtain ⟨σ7, hσ7, hf⟩ := bnd_e hf
    refine v_putI C 7 2 hσ7 rfl nin_7 ny_7 nty_7 nnm_7 (ns_kd_lt hk_a0 (by decide)) hk_a0 (by decide) (by decide) rfl rfl rfl rfl 36 tw_133 rfl 21 rfl (by decide +kernel) ?_
    refine v_aload_n C 0 0 rfl 22 rfl (by decide +kernel) ?_
    obtain ⟨b8, hb8, hf⟩ := drf_e hf
    obtain ⟨hk_b8, hf⟩ := grd_e hf
    refine v_getR C 7 1 hb8 rfl nin_7 (ns_kd_lt hk_a0 (by decide)) hk_a0 (by decide) (by decide) rfl 20 tw_129 rfl 25 rfl (by decide +kernel) ?_
    refine v_aload_n C 0 0 rfl 26 rfl (by decide +kernel) ?_
    refine v_getI C 7 2 rfl nin_7 (ns_kd_lt hk_a0 (by decide)) hk_a0 (by decide) (by decide) rfl 36 tw_133 rfl 29 rfl (by decide +kernel) ?_
    refine v_iconst C (1) (1) (by decide) 30 rfl (by decide +kernel) ?_
    refine v_isub C 31 rfl (by decide +kernel) ?_
    obtain ⟨hi9, hf⟩ := grd_e hf
    obtain ⟨b10, hb10, hf⟩ := drf_e hf
    obtain ⟨hk_b10, hf⟩ := grd_e hf
    refine v_aald C 12 (by decide) (ns_kd_lt hk_b8 (by decide)) hk_b8 hi9 hb10 32 rfl (by decide +kernel) ?_
    cases hf
    exact v_aret C hr (x := (some b10)) (by decide +kernel)
  · have hf := ite2_f hf h6
    refine v_null C 10 rfl (by decide +kernel) ?_
    cases hf
    exact v_aret C hr (x := none) (by decide +kernel)
theorem hd_World_newMule : (⟨"NinthStep$World", "newMule", "()LNinthStep$Mule;"⟩ : MethodName).cls = "NinthStep$World" ∧ (⟨"NinthStep$World", "newMule", "()LNinthStep$Mule;"⟩ : MethodName).cls ≠ "java/lang/invoke/MethodHandle" ∧ (⟨"NinthStep$World", "newMule", "()LNinthStep$Mule;"⟩ : MethodName).cls ≠ "java/lang/invoke/VarHandle" ∧ (parseMethodDescriptor (⟨"NinthStep$World", "newMule", "()LNinthStep$Mule;"⟩ : MethodName).desc).map (fun d => d.parameters.length) = some 0 := by decide +kernel
