def g_M_goes_67  (σ : ns_St) (a0 : Nat) (x1 : Int32) : Option (Int32 × ns_St) := cl2 (g_M_stays σ a0 x1) fun r25 σ24 => some ((σ24.1 a0 27), σ24)
def g_M_goes_32  : Nat → ns_St → Nat → Int32 → Int32 → Int32 → Option (Int32 × ns_St)
  | 0, _, _, _, _, _ => none
  | f + 1, σ, a0, x1, x2, x3 => ite2 (x2 ≤ x3) (g_M_goes_67 σ a0 x1) (ite2 ((σ.1 a0 3) ≤ (σ.1 a0 27)) (g_M_goes_67 σ a0 x1) (cl2 (g_M_stepped σ a0 (0 : Int32)) fun r29 σ28 => ite2 (r29 = 0) (bnd (x3 + 1) fun z31 => (g_M_goes_32 f) σ28 a0 x1 x2 z31) (cl2 (g_M_rests σ28 a0 x1) fun r33 σ32 => bnd (x3 + 1) fun z34 => (g_M_goes_32 f) σ32 a0 x1 x2 z34)))
def g_M_goes (σ : ns_St) (a0 : Nat) (x1 : Int32) (x2 : Int32) : Option (Int32 × ns_St) := grd (ns_kd a0 = 9) <| cl2 (g_M_isMule σ a0 x1) fun r36 σ35 => ite2 (r36 = 0) (cl2 (g_M_no σ35 a0 (-2 : Int32)) fun r39 σ38 => some (r39, σ38)) (cl2 (g_M_within σ35 x2 (1 : Int32) (60 : Int32)) fun r41 σ40 => ite2 (r41 = 0) (cl2 (g_M_no σ40 a0 (-2 : Int32)) fun r46 σ45 => some (r46, σ45)) (cl2 (g_M_begins σ40 a0 x1) fun r44 σ43 => g_M_goes_32 ns_F σ43 a0 x1 x2 (0 : Int32)))
theorem t_M_goes_67 (G : ns_G) (l : Launch) {p : Program} {e : Env} {s : State} {m : MethodId} {args : Array Value} {below : List Frame} {meth : Method} {c : Code} (C : ns_Cx G p s m args meth c prog_11_method_74_code "NinthStepModel" 4) (hr : meth.sig.returnType = (some .int)) {r : Int32} {σ' : ns_St}  (σ : ns_St) (a0 : Nat) (x1 : Int32) (hk_a0 : ns_kd a0 = 9) (hf : g_M_goes_67 σ a0 x1 = some (r, σ')) : VV G p l e { frames := 3, cells := 0, slots := 0, locals := 64 } s m args below meth c 4 0 0 (MQ below (ns_Qc G (some (.int r)) ns_N σ') args s 0 0 (ns_A G)) ns_N σ 67 [(0, .ref (G.1 + a0)), (1, .int x1)] [] := by
  unfold g_M_goes_67 at hf
  refine v_aload_n C 0 0 rfl 68 rfl (by decide +kernel) ?_
  refine v_iload_n C 1 1 rfl 69 rfl (by decide +kernel) ?_
  obtain ⟨r25, σ24, hcr25, hf⟩ := cl2_e hf
  refine v_cV C 9 rfl (ns_kd_lt hk_a0 (by decide)) hk_a0 (by decide) [.int x1] [] (c_M_stays G l σ a0 x1 hcr25) 255 1 tw_1378 tw_1375 tw_1377 ts_105 tw_10 hd_M_stays rfl ⟨(Nat.le_of_ble_eq_true rfl), (Nat.le_of_ble_eq_true rfl)⟩ ⟨(Nat.le_of_ble_eq_true rfl), (Nat.le_of_ble_eq_true rfl)⟩ (Nat.le_of_ble_eq_true rfl) rfl 72 rfl (by decide +kernel) [] rfl ?_
  refine v_aload_n C 0 0 rfl 73 rfl (by decide +kernel) ?_
  refine v_getI C 9 27 rfl nin_9 (ns_kd_lt hk_a0 (by decide)) hk_a0 (by decide) (by decide) rfl 191 tw_1002 rfl 76 rfl (by decide +kernel) ?_
  obtain ⟨rfl, rfl⟩ := ret_e hf
  exact v_iret C hr (by decide +kernel)
theorem t_M_goes_32 (G : ns_G) (l : Launch) {p : Program} {e : Env} {s : State} {m : MethodId} {args : Array Value} {below : List Frame} {meth : Method} {c : Code} (C : ns_Cx G p s m args meth c prog_11_method_74_code "NinthStepModel" 4) (hr : meth.sig.returnType = (some .int)) {r : Int32} {σ' : ns_St}  : ∀ (f : Nat) (σ : ns_St) (a0 : Nat) (x1 : Int32) (x2 : Int32) (x3 : Int32) (hk_a0 : ns_kd a0 = 9), g_M_goes_32 f σ a0 x1 x2 x3 = some (r, σ') → VV G p l e { frames := 3, cells := 0, slots := 0, locals := 64 } s m args below meth c 4 0 0 (MQ below (ns_Qc G (some (.int r)) ns_N σ') args s 0 0 (ns_A G)) ns_N σ 32 [(0, .ref (G.1 + a0)), (1, .int x1), (2, .int x2), (3, .int x3)] [] := by
  intro f
  induction f with
  | zero =>
    intro σ a0 x1 x2 x3 hk_a0 hf
    cases hf
  | succ f ih =>
    intro σ a0 x1 x2 x3 hk_a0 hf
    rw [g_M_goes_32] at hf
    refine v_iload_n C 3 3 rfl 33 rfl (by decide +kernel) ?_
    refine v_iload_n C 2 2 rfl 34 rfl (by decide +kernel) ?_
    refine v_icmp_ge C 67 37 rfl (by decide +kernel) (fun h26 => ?_) (fun h26 => ?_)
    · have hf := ite2_t hf h26
      refine v_sub [0, 1] rfl ?_
      exact t_M_goes_67 G l C hr  σ a0 x1 hk_a0 hf
    · have hf := ite2_f hf h26
      refine v_aload_n C 0 0 rfl 38 rfl (by decide +kernel) ?_
      refine v_getI C 9 27 rfl nin_9 (ns_kd_lt hk_a0 (by decide)) hk_a0 (by decide) (by decide) rfl 191 tw_1002 rfl 41 rfl (by decide +kernel) ?_
      refine v_aload_n C 0 0 rfl 42 rfl (by decide +kernel) ?_
      refine v_getI C 9 3 rfl nin_9 (ns_kd_lt hk_a0 (by decide)) hk_a0 (by decide) (by decide) rfl 59 tw_978 rfl 45 rfl (by decide +kernel) ?_
      refine v_icmp_ge C 67 48 rfl (by decide +kernel) (fun h27 => ?_) (fun h27 => ?_)
      · have hf := ite2_t hf h27
        refine v_sub [0, 1] rfl ?_
        exact t_M_goes_67 G l C hr  σ a0 x1 hk_a0 hf
      · have hf := ite2_f hf h27
        refine v_aload_n C 0 0 rfl 49 rfl (by decide +kernel) ?_
        refine v_iconst C (0) (0) (by decide) 50 rfl (by decide +kernel) ?_
        obtain ⟨r29, σ28, hcr29, hf⟩ := cl2_e hf
        refine v_cV C 9 rfl (ns_kd_lt hk_a0 (by decide)) hk_a0 (by decide) [.int (0 : Int32)] [] (c_M_stepped G l σ a0 (0 : Int32) hcr29) 208 1 tw_1246 tw_1243 tw_1245 ts_92 tw_10 hd_M_stepped rfl ⟨(Nat.le_of_ble_eq_true rfl), (Nat.le_of_ble_eq_true rfl)⟩ ⟨(Nat.le_of_ble_eq_true rfl), (Nat.le_of_ble_eq_true rfl)⟩ (Nat.le_of_ble_eq_true rfl) rfl 53 rfl (by decide +kernel) [.int r29] rfl ?_
        refine v_if_eq C 61 56 rfl (by decide +kernel) (fun h30 => ?_) (fun h30 => ?_)
        · have hf := ite2_t hf h30
          obtain ⟨z31, hz31, hf⟩ := bnd_e hf
          refine v_iinc C 3 (1) 3 z31 rfl (by rw [hz31]; rfl) [(3, .int z31), (0, .ref (G.1 + a0)), (1, .int x1), (2, .int x2)] (by decide) rfl 64 rfl (by decide +kernel) ?_
          refine v_goto C 32 (by decide +kernel) ?_
          refine v_sub [1, 2, 3, 0] rfl ?_
          exact ih σ28 a0 x1 x2 z31 hk_a0 hf
        · have hf := ite2_f hf h30
          refine v_aload_n C 0 0 rfl 57 rfl (by decide +kernel) ?_
          refine v_iload_n C 1 1 rfl 58 rfl (by decide +kernel) ?_
          obtain ⟨r33, σ32, hcr33, hf⟩ := cl2_e hf
          refine v_cV C 9 rfl (ns_kd_lt hk_a0 (by decide)) hk_a0 (by decide) [.int x1] [] (c_M_rests G l σ28 a0 x1 hcr33) 252 1 tw_1374 tw_1371 tw_1373 ts_104 tw_10 hd_M_rests rfl ⟨(Nat.le_of_ble_eq_true rfl), (Nat.le_of_ble_eq_true rfl)⟩ ⟨(Nat.le_of_ble_eq_true rfl), (Nat.le_of_ble_eq_true rfl)⟩ (Nat.le_of_ble_eq_true rfl) rfl 61 rfl (by decide +kernel) [] rfl ?_
          obtain ⟨z34, hz34, hf⟩ := bnd_e hf
          refine v_iinc C 3 (1) 3 z34 rfl (by rw [hz34]; rfl) [(3, .int z34), (0, .ref (G.1 + a0)), (1, .int x1), (2, .int x2)] (by decide) rfl 64 rfl (by decide +kernel) ?_
          refine v_goto C 32 (by decide +kernel) ?_
          refine v_sub [1, 2, 3, 0] rfl ?_
          exact ih σ32 a0 x1 x2 z34 hk_a0 hf
theorem c_M_goes (G : ns_G) (l : Launch) (σ : ns_St) (a0 : Nat) (x1 : Int32) (x2 : Int32) {r : Int32} {σ' : ns_St} (hf : g_M_goes σ a0 x1 x2 = some (r, σ')) : ns_ok G l ⟨"NinthStepModel", "goes", "(II)I"⟩ prog_11_method_74_code 4 (some .int) 3 64 0 0 [.ref (G.1 + a0), .int x1, .int x2] ns_N σ (some (.int r)) ns_N σ' := by
  refine v_open (by decide) (Nat.le_of_ble_eq_true rfl) rfl ?_
  intro p e s m below meth c C hr _
  have C : ns_Cx G p s m _ meth c prog_11_method_74_code "NinthStepModel" 4 := C
  unfold g_M_goes at hf
  obtain ⟨hk_a0, hf⟩ := grd_e hf
  refine v_aload_n C 0 0 rfl 1 rfl (by decide +kernel) ?_
  refine v_iload_n C 1 1 rfl 2 rfl (by decide +kernel) ?_
  obtain ⟨r36, σ35, hcr36, hf⟩ := cl2_e hf
  refine v_cV C 9 rfl (ns_kd_lt hk_a0 (by decide)) hk_a0 (by decide) [.int x1] [] (c_M_isMule G l σ a0 x1 hcr36) 84 1 tw_1111 tw_1108 tw_1110 ts_76 tw_10 hd_M_isMule rfl ⟨(Nat.le_of_ble_eq_true rfl), (Nat.le_of_ble_eq_true rfl)⟩ ⟨(Nat.le_of_ble_eq_true rfl), (Nat.le_of_ble_eq_true rfl)⟩ (Nat.le_of_ble_eq_true rfl) rfl 5 rfl (by decide +kernel) [.int r36] rfl ?_
  refine v_if_eq C 18 8 rfl (by decide +kernel) (fun h37 => ?_) (fun h37 => ?_)
  · have hf := ite2_t hf h37
    refine v_aload_n C 0 0 rfl 19 rfl (by decide +kernel) ?_
    refine v_bipush C (-2) (-2) (by decide) 21 rfl (by decide +kernel) ?_
    obtain ⟨r39, σ38, hcr39, hf⟩ := cl2_e hf
    refine v_cV C 9 rfl (ns_kd_lt hk_a0 (by decide)) hk_a0 (by decide) [.int (-2 : Int32)] [] (c_M_no G l σ35 a0 (-2 : Int32) hcr39) 73 1 tw_1079 tw_1076 tw_1078 ts_73 tw_10 hd_M_no rfl ⟨(Nat.le_of_ble_eq_true rfl), (Nat.le_of_ble_eq_true rfl)⟩ ⟨(Nat.le_of_ble_eq_true rfl), (Nat.le_of_ble_eq_true rfl)⟩ (Nat.le_of_ble_eq_true rfl) rfl 24 rfl (by decide +kernel) [.int r39] rfl ?_
    obtain ⟨rfl, rfl⟩ := ret_e hf
    exact v_iret C hr (by decide +kernel)
  · have hf := ite2_f hf h37
    refine v_iload_n C 2 2 rfl 9 rfl (by decide +kernel) ?_
    refine v_iconst C (1) (1) (by decide) 10 rfl (by decide +kernel) ?_
    refine v_bipush C (60) (60) (by decide) 12 rfl (by decide +kernel) ?_
    obtain ⟨r41, σ40, hcr41, hf⟩ := cl2_e hf
    refine v_cS C [.int x2, .int (1 : Int32), .int (60 : Int32)] [] (c_M_within G l σ35 x2 (1 : Int32) (60 : Int32) hcr41) 69 3 tw_1075 tw_1073 tw_1074 tw_10 hd_M_within rfl ⟨(Nat.le_of_ble_eq_true rfl), (Nat.le_of_ble_eq_true rfl)⟩ ⟨(Nat.le_of_ble_eq_true rfl), (Nat.le_of_ble_eq_true rfl)⟩ (Nat.le_of_ble_eq_true rfl) rfl 15 rfl (by decide +kernel) [.int r41] rfl ?_
    refine v_if_ne C 25 18 rfl (by decide +kernel) (fun h42 => ?_) (fun h42 => ?_)
    · have hf := ite2_f hf h42
      refine v_aload_n C 0 0 rfl 26 rfl (by decide +kernel) ?_
      refine v_iload_n C 1 1 rfl 27 rfl (by decide +kernel) ?_
      obtain ⟨r44, σ43, hcr44, hf⟩ := cl2_e hf
      refine v_cV C 9 rfl (ns_kd_lt hk_a0 (by decide)) hk_a0 (by decide) [.int x1] [] (c_M_begins G l σ40 a0 x1 hcr44) 205 1 tw_1242 tw_1239 tw_1241 ts_91 tw_10 hd_M_begins rfl ⟨(Nat.le_of_ble_eq_true rfl), (Nat.le_of_ble_eq_true rfl)⟩ ⟨(Nat.le_of_ble_eq_true rfl), (Nat.le_of_ble_eq_true rfl)⟩ (Nat.le_of_ble_eq_true rfl) rfl 30 rfl (by decide +kernel) [] rfl ?_
      refine v_iconst C (0) (0) (by decide) 31 rfl (by decide +kernel) ?_
      refine v_istore_n C 3 [(3, .int (0 : Int32)), (0, .ref (G.1 + a0)), (1, .int x1), (2, .int x2)] (by decide) rfl 32 rfl (by decide +kernel) ?_
      refine v_sub [1, 2, 3, 0] rfl ?_
      exact t_M_goes_32 G l C hr  ns_F σ43 a0 x1 x2 (0 : Int32) hk_a0 hf
    · have hf := ite2_t hf h42
      refine v_aload_n C 0 0 rfl 19 rfl (by decide +kernel) ?_
      refine v_bipush C (-2) (-2) (by decide) 21 rfl (by decide +kernel) ?_
      obtain ⟨r46, σ45, hcr46, hf⟩ := cl2_e hf
      refine v_cV C 9 rfl (ns_kd_lt hk_a0 (by decide)) hk_a0 (by decide) [.int (-2 : Int32)] [] (c_M_no G l σ40 a0 (-2 : Int32) hcr46) 73 1 tw_1079 tw_1076 tw_1078 ts_73 tw_10 hd_M_no rfl ⟨(Nat.le_of_ble_eq_true rfl), (Nat.le_of_ble_eq_true rfl)⟩ ⟨(Nat.le_of_ble_eq_true rfl), (Nat.le_of_ble_eq_true rfl)⟩ (Nat.le_of_ble_eq_true rfl) rfl 24 rfl (by decide +kernel) [.int r46] rfl ?_
      obtain ⟨rfl, rfl⟩ := ret_e hf
      exact v_iret C hr (by decide +kernel)
theorem hd_M_goes : (⟨"NinthStepModel", "goes", "(II)I"⟩ : MethodName).cls = "NinthStepModel" ∧ (⟨"NinthStepModel", "goes", "(II)I"⟩ : MethodName).cls ≠ "java/lang/invoke/MethodHandle" ∧ (⟨"NinthStepModel", "goes", "(II)I"⟩ : MethodName).cls ≠ "java/lang/invoke/VarHandle" ∧ (parseMethodDescriptor (⟨"NinthStepModel", "goes", "(II)I"⟩ : MethodName).desc).map (fun d => d.parameters.length) = some 2 := by decide +kernel
def g_M_turn_64  (σ : ns_St) (a0 : Nat) (x1 : Int32) (x2 : Int32) : Option (Int32 × ns_St) := cl2 (g_M_stays σ a0 x1) fun r23 σ22 => ite2 (x2 = 0) (some ((0 : Int32), σ22)) (some ((1 : Int32), σ22))
def g_M_turn (σ : ns_St) (a0 : Nat) (x1 : Int32) : Option (Int32 × ns_St) := grd (ns_kd a0 = 9) <| cl2 (g_M_isMule σ a0 x1) fun r26 σ25 => ite2 (r26 = 0) (cl2 (g_M_no σ25 a0 (-2 : Int32)) fun r42 σ41 => some (r42, σ41)) (drf (σ25.2.2 a0 8) fun b28 => grd (ns_kd b28 = 10) <| grd (ns_in x1 (ns_ln b28)) <| ite2 ((σ25.1 b28 (ns_ix x1)) = (σ25.1 a0 3)) (cl2 (g_M_no σ25 a0 (-5 : Int32)) fun r40 σ39 => some (r40, σ39)) (cl2 (g_M_begins σ25 a0 x1) fun r32 σ31 => bnd (ns_pI σ31 a0 28 ((σ31.1 a0 28) + (1 : Int32))) fun σ33 => cl2 (g_M_stopsHere σ33 a0) fun r35 σ34 => ite2 (r35 = 0) (g_M_turn_64 σ34 a0 x1 r35) (cl2 (g_M_rests σ34 a0 x1) fun r38 σ37 => g_M_turn_64 σ37 a0 x1 r35)))
theorem t_M_turn_64 (G : ns_G) (l : Launch) {p : Program} {e : Env} {s : State} {m : MethodId} {args : Array Value} {below : List Frame} {meth : Method} {c : Code} (C : ns_Cx G p s m args meth c prog_11_method_75_code "NinthStepModel" 3) (hr : meth.sig.returnType = (some .int)) {r : Int32} {σ' : ns_St}  (σ : ns_St) (a0 : Nat) (x1 : Int32) (x2 : Int32) (hk_a0 : ns_kd a0 = 9) (hf : g_M_turn_64 σ a0 x1 x2 = some (r, σ')) : VV G p l e { frames := 2, cells := 0, slots := 0, locals := 43 } s m args below meth c 3 0 0 (MQ below (ns_Qc G (some (.int r)) ns_N σ') args s 0 0 (ns_A G)) ns_N σ 64 [(0, .ref (G.1 + a0)), (1, .int x1), (2, .int x2)] [] := by
  unfold g_M_turn_64 at hf
  refine v_aload_n C 0 0 rfl 65 rfl (by decide +kernel) ?_
  refine v_iload_n C 1 1 rfl 66 rfl (by decide +kernel) ?_
  obtain ⟨r23, σ22, hcr23, hf⟩ := cl2_e hf
  refine v_cV C 9 rfl (ns_kd_lt hk_a0 (by decide)) hk_a0 (by decide) [.int x1] [] (c_M_stays G l σ a0 x1 hcr23) 255 1 tw_1378 tw_1375 tw_1377 ts_105 tw_10 hd_M_stays rfl ⟨(Nat.le_of_ble_eq_true rfl), (Nat.le_of_ble_eq_true rfl)⟩ ⟨(Nat.le_of_ble_eq_true rfl), (Nat.le_of_ble_eq_true rfl)⟩ (Nat.le_of_ble_eq_true rfl) rfl 69 rfl (by decide +kernel) [] rfl ?_
  refine v_iload_n C 2 2 rfl 70 rfl (by decide +kernel) ?_
  refine v_if_eq C 77 73 rfl (by decide +kernel) (fun h24 => ?_) (fun h24 => ?_)
  · have hf := ite2_t hf h24
    refine v_iconst C (0) (0) (by decide) 78 rfl (by decide +kernel) ?_
    obtain ⟨rfl, rfl⟩ := ret_e hf
    exact v_iret C hr (by decide +kernel)
  · have hf := ite2_f hf h24
    refine v_iconst C (1) (1) (by decide) 74 rfl (by decide +kernel) ?_
    refine v_goto C 78 (by decide +kernel) ?_
    obtain ⟨rfl, rfl⟩ := ret_e hf
    exact v_iret C hr (by decide +kernel)
theorem c_M_turn (G : ns_G) (l : Launch) (σ : ns_St) (a0 : Nat) (x1 : Int32) {r : Int32} {σ' : ns_St} (hf : g_M_turn σ a0 x1 = some (r, σ')) : ns_ok G l ⟨"NinthStepModel", "turn", "(I)I"⟩ prog_11_method_75_code 3 (some .int) 2 43 0 0 [.ref (G.1 + a0), .int x1] ns_N σ (some (.int r)) ns_N σ' := by
  refine v_open (by decide) (Nat.le_of_ble_eq_true rfl) rfl ?_
  intro p e s m below meth c C hr _
  have C : ns_Cx G p s m _ meth c prog_11_method_75_code "NinthStepModel" 3 := C
  unfold g_M_turn at hf
  obtain ⟨hk_a0, hf⟩ := grd_e hf
  refine v_aload_n C 0 0 rfl 1 rfl (by decide +kernel) ?_
  refine v_iload_n C 1 1 rfl 2 rfl (by decide +kernel) ?_
  obtain ⟨r26, σ25, hcr26, hf⟩ := cl2_e hf
  refine v_cV C 9 rfl (ns_kd_lt hk_a0 (by decide)) hk_a0 (by decide) [.int x1] [] (c_M_isMule G l σ a0 x1 hcr26) 84 1 tw_1111 tw_1108 tw_1110 ts_76 tw_10 hd_M_isMule rfl ⟨(Nat.le_of_ble_eq_true rfl), (Nat.le_of_ble_eq_true rfl)⟩ ⟨(Nat.le_of_ble_eq_true rfl), (Nat.le_of_ble_eq_true rfl)⟩ (Nat.le_of_ble_eq_true rfl) rfl 5 rfl (by decide +kernel) [.int r26] rfl ?_
  refine v_if_ne C 15 8 rfl (by decide +kernel) (fun h27 => ?_) (fun h27 => ?_)
  · have hf := ite2_f hf h27
    refine v_aload_n C 0 0 rfl 16 rfl (by decide +kernel) ?_
    obtain ⟨b28, hb28, hf⟩ := drf_e hf
    obtain ⟨hk_b28, hf⟩ := grd_e hf
    refine v_getR C 9 8 hb28 rfl nin_9 (ns_kd_lt hk_a0 (by decide)) hk_a0 (by decide) (by decide) rfl 29 tw_983 rfl 19 rfl (by decide +kernel) ?_
    refine v_iload_n C 1 1 rfl 20 rfl (by decide +kernel) ?_
    obtain ⟨hi29, hf⟩ := grd_e hf
    refine v_iald C (ns_kd_lt hk_b28 (by decide)) hk_b28 hi29 21 rfl (by decide +kernel) ?_
    refine v_aload_n C 0 0 rfl 22 rfl (by decide +kernel) ?_
    refine v_getI C 9 3 rfl nin_9 (ns_kd_lt hk_a0 (by decide)) hk_a0 (by decide) (by decide) rfl 59 tw_978 rfl 25 rfl (by decide +kernel) ?_
    refine v_icmp_ne C 35 28 rfl (by decide +kernel) (fun h30 => ?_) (fun h30 => ?_)
    · have hf := ite2_f hf h30
      refine v_aload_n C 0 0 rfl 36 rfl (by decide +kernel) ?_
      refine v_iload_n C 1 1 rfl 37 rfl (by decide +kernel) ?_
      obtain ⟨r32, σ31, hcr32, hf⟩ := cl2_e hf
      refine v_cV C 9 rfl (ns_kd_lt hk_a0 (by decide)) hk_a0 (by decide) [.int x1] [] (c_M_begins G l σ25 a0 x1 hcr32) 205 1 tw_1242 tw_1239 tw_1241 ts_91 tw_10 hd_M_begins rfl ⟨(Nat.le_of_ble_eq_true rfl), (Nat.le_of_ble_eq_true rfl)⟩ ⟨(Nat.le_of_ble_eq_true rfl), (Nat.le_of_ble_eq_true rfl)⟩ (Nat.le_of_ble_eq_true rfl) rfl 40 rfl (by decide +kernel) [] rfl ?_
      refine v_aload_n C 0 0 rfl 41 rfl (by decide +kernel) ?_
      refine v_dup C rfl 42 rfl (by decide +kernel) ?_
      refine v_getI C 9 28 rfl nin_9 (ns_kd_lt hk_a0 (by decide)) hk_a0 (by decide) (by decide) rfl 194 tw_1003 rfl 45 rfl (by decide +kernel) ?_
      refine v_iconst C (1) (1) (by decide) 46 rfl (by decide +kernel) ?_
      refine v_iadd C 47 rfl (by decide +kernel) ?_
      obtain ⟨σ33, hσ33, hf⟩ := bnd_e hf
      refine v_putI C 9 28 hσ33 rfl nin_9 ny_9 nty_9 nnm_9 (ns_kd_lt hk_a0 (by decide)) hk_a0 (by decide) (by decide) rfl rfl rfl rfl 194 tw_1003 rfl 50 rfl (by decide +kernel) ?_
      refine v_aload_n C 0 0 rfl 51 rfl (by decide +kernel) ?_
      obtain ⟨r35, σ34, hcr35, hf⟩ := cl2_e hf
      refine v_cV C 9 rfl (ns_kd_lt hk_a0 (by decide)) hk_a0 (by decide) [] [] (c_M_stopsHere G l σ33 a0 hcr35) 197 0 tw_1250 tw_1247 tw_1249 ts_93 tw_10 hd_M_stopsHere rfl ⟨(Nat.le_of_ble_eq_true rfl), (Nat.le_of_ble_eq_true rfl)⟩ ⟨(Nat.le_of_ble_eq_true rfl), (Nat.le_of_ble_eq_true rfl)⟩ (Nat.le_of_ble_eq_true rfl) rfl 54 rfl (by decide +kernel) [.int r35] rfl ?_
      refine v_istore_n C 2 [(2, .int r35), (0, .ref (G.1 + a0)), (1, .int x1)] (by decide) rfl 55 rfl (by decide +kernel) ?_
      refine v_iload_n C 2 0 rfl 56 rfl (by decide +kernel) ?_
      refine v_if_eq C 64 59 rfl (by decide +kernel) (fun h36 => ?_) (fun h36 => ?_)
      · have hf := ite2_t hf h36
        refine v_sub [1, 2, 0] rfl ?_
        exact t_M_turn_64 G l C hr  σ34 a0 x1 r35 hk_a0 hf
      · have hf := ite2_f hf h36
        refine v_aload_n C 0 1 rfl 60 rfl (by decide +kernel) ?_
        refine v_iload_n C 1 2 rfl 61 rfl (by decide +kernel) ?_
        obtain ⟨r38, σ37, hcr38, hf⟩ := cl2_e hf
        refine v_cV C 9 rfl (ns_kd_lt hk_a0 (by decide)) hk_a0 (by decide) [.int x1] [] (c_M_rests G l σ34 a0 x1 hcr38) 252 1 tw_1374 tw_1371 tw_1373 ts_104 tw_10 hd_M_rests rfl ⟨(Nat.le_of_ble_eq_true rfl), (Nat.le_of_ble_eq_true rfl)⟩ ⟨(Nat.le_of_ble_eq_true rfl), (Nat.le_of_ble_eq_true rfl)⟩ (Nat.le_of_ble_eq_true rfl) rfl 64 rfl (by decide +kernel) [] rfl ?_
        refine v_sub [1, 2, 0] rfl ?_
        exact t_M_turn_64 G l C hr  σ37 a0 x1 r35 hk_a0 hf
    · have hf := ite2_t hf h30
      refine v_aload_n C 0 0 rfl 29 rfl (by decide +kernel) ?_
      refine v_bipush C (-5) (-5) (by decide) 31 rfl (by decide +kernel) ?_
      obtain ⟨r40, σ39, hcr40, hf⟩ := cl2_e hf
      refine v_cV C 9 rfl (ns_kd_lt hk_a0 (by decide)) hk_a0 (by decide) [.int (-5 : Int32)] [] (c_M_no G l σ25 a0 (-5 : Int32) hcr40) 73 1 tw_1079 tw_1076 tw_1078 ts_73 tw_10 hd_M_no rfl ⟨(Nat.le_of_ble_eq_true rfl), (Nat.le_of_ble_eq_true rfl)⟩ ⟨(Nat.le_of_ble_eq_true rfl), (Nat.le_of_ble_eq_true rfl)⟩ (Nat.le_of_ble_eq_true rfl) rfl 34 rfl (by decide +kernel) [.int r40] rfl ?_
      obtain ⟨rfl, rfl⟩ := ret_e hf
      exact v_iret C hr (by decide +kernel)
  · have hf := ite2_t hf h27
    refine v_aload_n C 0 0 rfl 9 rfl (by decide +kernel) ?_
    refine v_bipush C (-2) (-2) (by decide) 11 rfl (by decide +kernel) ?_
    obtain ⟨r42, σ41, hcr42, hf⟩ := cl2_e hf
    refine v_cV C 9 rfl (ns_kd_lt hk_a0 (by decide)) hk_a0 (by decide) [.int (-2 : Int32)] [] (c_M_no G l σ25 a0 (-2 : Int32) hcr42) 73 1 tw_1079 tw_1076 tw_1078 ts_73 tw_10 hd_M_no rfl ⟨(Nat.le_of_ble_eq_true rfl), (Nat.le_of_ble_eq_true rfl)⟩ ⟨(Nat.le_of_ble_eq_true rfl), (Nat.le_of_ble_eq_true rfl)⟩ (Nat.le_of_ble_eq_true rfl) rfl 14 rfl (by decide +kernel) [.int r42] rfl ?_
    obtain ⟨rfl, rfl⟩ := ret_e hf
    exact v_iret C hr (by decide +kernel)
theorem hd_M_turn : (⟨"NinthStepModel", "turn", "(I)I"⟩ : MethodName).cls = "NinthStepModel" ∧ (⟨"NinthStepModel", "turn", "(I)I"⟩ : MethodName).cls ≠ "java/lang/invoke/MethodHandle" ∧ (⟨"NinthStepModel", "turn", "(I)I"⟩ : MethodName).cls ≠ "java/lang/invoke/VarHandle" ∧ (parseMethodDescriptor (⟨"NinthStepModel", "turn", "(I)I"⟩ : MethodName).desc).map (fun d => d.parameters.length) = some 1 := by decide +kernel
def g_M_draw (σ : ns_St) (a0 : Nat) (x1 : Int32) : Option (Int32 × ns_St) := grd (ns_kd a0 = 9) <| bnd (ns_pI σ a0 14 (((σ.1 a0 14) * (1103515245 : Int32)) + (12345 : Int32))) fun σ3 => grd (¬ x1 = 0) <| some (((((σ3.1 a0 14).toUInt32 >>> ((16 : Int32).toUInt32 &&& Int32.toUInt32 31)).toInt32) - (((σ3.1 a0 14).toUInt32 >>> ((16 : Int32).toUInt32 &&& Int32.toUInt32 31)).toInt32) / x1 * x1), σ3)
theorem c_M_draw (G : ns_G) (l : Launch) (σ : ns_St) (a0 : Nat) (x1 : Int32) {r : Int32} {σ' : ns_St} (hf : g_M_draw σ a0 x1 = some (r, σ')) : ns_ok G l ⟨"NinthStepModel", "draw", "(I)I"⟩ prog_11_method_76_code 2 (some .int) 0 0 0 0 [.ref (G.1 + a0), .int x1] ns_N σ (some (.int r)) ns_N σ' := by
  refine v_open (by decide) (Nat.le_of_ble_eq_true rfl) rfl ?_
  intro p e s m below meth c C hr _
  have C : ns_Cx G p s m _ meth c prog_11_method_76_code "NinthStepModel" 2 := C
  unfold g_M_draw at hf
  obtain ⟨hk_a0, hf⟩ := grd_e hf
  refine v_aload_n C 0 0 rfl 1 rfl (by decide +kernel) ?_
  refine v_aload_n C 0 0 rfl 2 rfl (by decide +kernel) ?_
  refine v_getI C 9 14 rfl nin_9 (ns_kd_lt hk_a0 (by decide)) hk_a0 (by decide) (by decide) rfl 63 tw_989 rfl 5 rfl (by decide +kernel) ?_
  refine v_ldcw C 258 (1103515245) tw_1391 8 rfl (by decide +kernel) ?_
  refine v_imul C 9 rfl (by decide +kernel) ?_
  refine v_sipush C (12345) (12345) (by decide) 12 rfl (by decide +kernel) ?_
  refine v_iadd C 13 rfl (by decide +kernel) ?_
  obtain ⟨σ3, hσ3, hf⟩ := bnd_e hf
  refine v_putI C 9 14 hσ3 rfl nin_9 ny_9 nty_9 nnm_9 (ns_kd_lt hk_a0 (by decide)) hk_a0 (by decide) (by decide) rfl rfl rfl rfl 63 tw_989 rfl 16 rfl (by decide +kernel) ?_
  refine v_aload_n C 0 0 rfl 17 rfl (by decide +kernel) ?_
  refine v_getI C 9 14 rfl nin_9 (ns_kd_lt hk_a0 (by decide)) hk_a0 (by decide) (by decide) rfl 63 tw_989 rfl 20 rfl (by decide +kernel) ?_
  refine v_bipush C (16) (16) (by decide) 22 rfl (by decide +kernel) ?_
  refine v_iushr C 23 rfl (by decide +kernel) ?_
  refine v_iload_n C 1 1 rfl 24 rfl (by decide +kernel) ?_
  obtain ⟨hd4, hf⟩ := grd_e hf
  refine v_irem C hd4 25 rfl (by decide +kernel) ?_
  obtain ⟨rfl, rfl⟩ := ret_e hf
  exact v_iret C hr (by decide +kernel)
theorem hd_M_draw : (⟨"NinthStepModel", "draw", "(I)I"⟩ : MethodName).cls = "NinthStepModel" ∧ (⟨"NinthStepModel", "draw", "(I)I"⟩ : MethodName).cls ≠ "java/lang/invoke/MethodHandle" ∧ (⟨"NinthStepModel", "draw", "(I)I"⟩ : MethodName).cls ≠ "java/lang/invoke/VarHandle" ∧ (parseMethodDescriptor (⟨"NinthStepModel", "draw", "(I)I"⟩ : MethodName).desc).map (fun d => d.parameters.length) = some 1 := by decide +kernel
def g_M_day_51 (kh7 : ns_St → Nat → Int32 → Int32 → Option (Int32 × ns_St)) (kh20 : ns_St → Nat → Int32 → Int32 → Option (Int32 × ns_St)) (σ : ns_St) (s0 : Nat) (s1 : Int32) (a0 : Nat) (x1 : Int32) (x2 : Int32) : Option (Int32 × ns_St) := cl2 (g_M_stepped σ s0 s1) fun r18 σ17 => ite2 (r18 = 0) (kh20 σ17 a0 x1 x2) (cl2 (g_M_rests σ17 a0 x2) fun r21 σ20 => kh20 σ20 a0 x1 x2)
def g_M_day_20 (kh7 : ns_St → Nat → Int32 → Int32 → Option (Int32 × ns_St)) : Nat → ns_St → Nat → Int32 → Int32 → Option (Int32 × ns_St)
  | 0, _, _, _, _ => none
  | f + 1, σ, a0, x1, x2 => ite2 ((σ.1 a0 3) ≤ (σ.1 a0 27)) (cl2 (g_M_stays σ a0 x2) fun r24 σ23 => bnd (x2 + 1) fun z25 => kh7 σ23 a0 x1 z25) (cl2 (g_M_draw σ a0 (1000 : Int32)) fun r27 σ26 => ite2 ((σ26.1 a0 12) ≤ r27) (g_M_day_51 kh7 (g_M_day_20 kh7 f) σ26 a0 (0 : Int32) a0 x1 x2) (g_M_day_51 kh7 (g_M_day_20 kh7 f) σ26 a0 (1 : Int32) a0 x1 x2))
def g_M_day_7  : Nat → ns_St → Nat → Int32 → Int32 → Option (Int32 × ns_St)
  | 0, _, _, _, _ => none
  | f + 1, σ, a0, x1, x2 => ite2 ((σ.1 a0 5) ≤ x2) (some (((σ.1 a0 13) - x1), σ)) (cl2 (g_M_begins σ a0 x2) fun r31 σ30 => g_M_day_20 (g_M_day_7 f) ns_F σ30 a0 x1 x2)
def g_M_day (σ : ns_St) (a0 : Nat) : Option (Int32 × ns_St) := grd (ns_kd a0 = 9) <| bnd (σ.1 a0 13) fun z32 => g_M_day_7 ns_F σ a0 z32 (0 : Int32)
theorem t_M_day_51 (G : ns_G) (l : Launch) {p : Program} {e : Env} {s : State} {m : MethodId} {args : Array Value} {below : List Frame} {meth : Method} {c : Code} (C : ns_Cx G p s m args meth c prog_11_method_77_code "NinthStepModel" 3) (hr : meth.sig.returnType = (some .int)) {r : Int32} {σ' : ns_St} {kh7 : ns_St → Nat → Int32 → Int32 → Option (Int32 × ns_St)} {kh20 : ns_St → Nat → Int32 → Int32 → Option (Int32 × ns_St)} (hkh7 : ∀ (σ : ns_St) (a0 : Nat) (x1 : Int32) (x2 : Int32), ns_kd a0 = 9 → kh7 σ a0 x1 x2 = some (r, σ') → VV G p l e { frames := 3, cells := 0, slots := 0, locals := 64 } s m args below meth c 3 0 0 (MQ below (ns_Qc G (some (.int r)) ns_N σ') args s 0 0 (ns_A G)) ns_N σ 7 [(0, .ref (G.1 + a0)), (1, .int x1), (2, .int x2)] []) (hkh20 : ∀ (σ : ns_St) (a0 : Nat) (x1 : Int32) (x2 : Int32), ns_kd a0 = 9 → kh20 σ a0 x1 x2 = some (r, σ') → VV G p l e { frames := 3, cells := 0, slots := 0, locals := 64 } s m args below meth c 3 0 0 (MQ below (ns_Qc G (some (.int r)) ns_N σ') args s 0 0 (ns_A G)) ns_N σ 20 [(0, .ref (G.1 + a0)), (1, .int x1), (2, .int x2)] []) (σ : ns_St) (s0 : Nat) (s1 : Int32) (a0 : Nat) (x1 : Int32) (x2 : Int32) (hk_s0 : ns_kd s0 = 9) (hk_a0 : ns_kd a0 = 9) (hf : g_M_day_51 kh7 kh20 σ s0 s1 a0 x1 x2 = some (r, σ')) : VV G p l e { frames := 3, cells := 0, slots := 0, locals := 64 } s m args below meth c 3 0 0 (MQ below (ns_Qc G (some (.int r)) ns_N σ') args s 0 0 (ns_A G)) ns_N σ 51 [(0, .ref (G.1 + a0)), (1, .int x1), (2, .int x2)] [.int s1, .ref (G.1 + s0)] := by
  unfold g_M_day_51 at hf
  obtain ⟨r18, σ17, hcr18, hf⟩ := cl2_e hf
  refine v_cV C 9 rfl (ns_kd_lt hk_s0 (by decide)) hk_s0 (by decide) [.int s1] [] (c_M_stepped G l σ s0 s1 hcr18) 208 1 tw_1246 tw_1243 tw_1245 ts_92 tw_10 hd_M_stepped rfl ⟨(Nat.le_of_ble_eq_true rfl), (Nat.le_of_ble_eq_true rfl)⟩ ⟨(Nat.le_of_ble_eq_true rfl), (Nat.le_of_ble_eq_true rfl)⟩ (Nat.le_of_ble_eq_true rfl) rfl 54 rfl (by decide +kernel) [.int r18] rfl ?_
  refine v_if_eq C 20 57 rfl (by decide +kernel) (fun h19 => ?_) (fun h19 => ?_)
  · have hf := ite2_t hf h19
    exact hkh20 σ17 a0 x1 x2 hk_a0 hf
  · have hf := ite2_f hf h19
    refine v_aload_n C 0 0 rfl 58 rfl (by decide +kernel) ?_
    refine v_iload_n C 2 2 rfl 59 rfl (by decide +kernel) ?_
    obtain ⟨r21, σ20, hcr21, hf⟩ := cl2_e hf
    refine v_cV C 9 rfl (ns_kd_lt hk_a0 (by decide)) hk_a0 (by decide) [.int x2] [] (c_M_rests G l σ17 a0 x2 hcr21) 252 1 tw_1374 tw_1371 tw_1373 ts_104 tw_10 hd_M_rests rfl ⟨(Nat.le_of_ble_eq_true rfl), (Nat.le_of_ble_eq_true rfl)⟩ ⟨(Nat.le_of_ble_eq_true rfl), (Nat.le_of_ble_eq_true rfl)⟩ (Nat.le_of_ble_eq_true rfl) rfl 62 rfl (by decide +kernel) [] rfl ?_
    refine v_goto C 20 (by decide +kernel) ?_
    exact hkh20 σ20 a0 x1 x2 hk_a0 hf
theorem t_M_day_20 (G : ns_G) (l : Launch) {p : Program} {e : Env} {s : State} {m : MethodId} {args : Array Value} {below : List Frame} {meth : Method} {c : Code} (C : ns_Cx G p s m args meth c prog_11_method_77_code "NinthStepModel" 3) (hr : meth.sig.returnType = (some .int)) {r : Int32} {σ' : ns_St} {kh7 : ns_St → Nat → Int32 → Int32 → Option (Int32 × ns_St)} (hkh7 : ∀ (σ : ns_St) (a0 : Nat) (x1 : Int32) (x2 : Int32), ns_kd a0 = 9 → kh7 σ a0 x1 x2 = some (r, σ') → VV G p l e { frames := 3, cells := 0, slots := 0, locals := 64 } s m args below meth c 3 0 0 (MQ below (ns_Qc G (some (.int r)) ns_N σ') args s 0 0 (ns_A G)) ns_N σ 7 [(0, .ref (G.1 + a0)), (1, .int x1), (2, .int x2)] []) : ∀ (f : Nat) (σ : ns_St) (a0 : Nat) (x1 : Int32) (x2 : Int32) (hk_a0 : ns_kd a0 = 9), g_M_day_20 kh7 f σ a0 x1 x2 = some (r, σ') → VV G p l e { frames := 3, cells := 0, slots := 0, locals := 64 } s m args below meth c 3 0 0 (MQ below (ns_Qc G (some (.int r)) ns_N σ') args s 0 0 (ns_A G)) ns_N σ 20 [(0, .ref (G.1 + a0)), (1, .int x1), (2, .int x2)] [] := by
  intro f
  induction f with
  | zero =>
    intro σ a0 x1 x2 hk_a0 hf
    cases hf
  | succ f ih =>
    intro σ a0 x1 x2 hk_a0 hf
    rw [g_M_day_20] at hf
    refine v_aload_n C 0 0 rfl 21 rfl (by decide +kernel) ?_
    refine v_getI C 9 27 rfl nin_9 (ns_kd_lt hk_a0 (by decide)) hk_a0 (by decide) (by decide) rfl 191 tw_1002 rfl 24 rfl (by decide +kernel) ?_
    refine v_aload_n C 0 0 rfl 25 rfl (by decide +kernel) ?_
    refine v_getI C 9 3 rfl nin_9 (ns_kd_lt hk_a0 (by decide)) hk_a0 (by decide) (by decide) rfl 59 tw_978 rfl 28 rfl (by decide +kernel) ?_
    refine v_icmp_ge C 65 31 rfl (by decide +kernel) (fun h22 => ?_) (fun h22 => ?_)
    · have hf := ite2_t hf h22
      refine v_aload_n C 0 0 rfl 66 rfl (by decide +kernel) ?_
      refine v_iload_n C 2 2 rfl 67 rfl (by decide +kernel) ?_
      obtain ⟨r24, σ23, hcr24, hf⟩ := cl2_e hf
      refine v_cV C 9 rfl (ns_kd_lt hk_a0 (by decide)) hk_a0 (by decide) [.int x2] [] (c_M_stays G l σ a0 x2 hcr24) 255 1 tw_1378 tw_1375 tw_1377 ts_105 tw_10 hd_M_stays rfl ⟨(Nat.le_of_ble_eq_true rfl), (Nat.le_of_ble_eq_true rfl)⟩ ⟨(Nat.le_of_ble_eq_true rfl), (Nat.le_of_ble_eq_true rfl)⟩ (Nat.le_of_ble_eq_true rfl) rfl 70 rfl (by decide +kernel) [] rfl ?_
      obtain ⟨z25, hz25, hf⟩ := bnd_e hf
      refine v_iinc C 2 (1) 2 z25 rfl (by rw [hz25]; rfl) [(2, .int z25), (0, .ref (G.1 + a0)), (1, .int x1)] (by decide) rfl 73 rfl (by decide +kernel) ?_
      refine v_goto C 7 (by decide +kernel) ?_
      refine v_sub [1, 2, 0] rfl ?_
      exact hkh7 σ23 a0 x1 z25 hk_a0 hf
    · have hf := ite2_f hf h22
      refine v_aload_n C 0 0 rfl 32 rfl (by decide +kernel) ?_
      refine v_aload_n C 0 0 rfl 33 rfl (by decide +kernel) ?_
      refine v_sipush C (1000) (1000) (by decide) 36 rfl (by decide +kernel) ?_
      obtain ⟨r27, σ26, hcr27, hf⟩ := cl2_e hf
      refine v_cV C 9 rfl (ns_kd_lt hk_a0 (by decide)) hk_a0 (by decide) [.int (1000 : Int32)] [.ref (G.1 + a0)] (c_M_draw G l σ a0 (1000 : Int32) hcr27) 259 1 tw_1390 tw_1387 tw_1389 ts_106 tw_10 hd_M_draw rfl ⟨(Nat.le_of_ble_eq_true rfl), (Nat.le_of_ble_eq_true rfl)⟩ ⟨(Nat.le_of_ble_eq_true rfl), (Nat.le_of_ble_eq_true rfl)⟩ (Nat.le_of_ble_eq_true rfl) rfl 39 rfl (by decide +kernel) [.int r27, .ref (G.1 + a0)] rfl ?_
      refine v_aload_n C 0 0 rfl 40 rfl (by decide +kernel) ?_
      refine v_getI C 9 12 rfl nin_9 (ns_kd_lt hk_a0 (by decide)) hk_a0 (by decide) (by decide) rfl 119 tw_987 rfl 43 rfl (by decide +kernel) ?_
      refine v_icmp_ge C 50 46 rfl (by decide +kernel) (fun h28 => ?_) (fun h28 => ?_)
      · have hf := ite2_t hf h28
        refine v_iconst C (0) (0) (by decide) 51 rfl (by decide +kernel) ?_
        exact t_M_day_51 G l C hr hkh7 ih σ26 a0 (0 : Int32) a0 x1 x2 hk_a0 hk_a0 hf
      · have hf := ite2_f hf h28
        refine v_iconst C (1) (1) (by decide) 47 rfl (by decide +kernel) ?_
        refine v_goto C 51 (by decide +kernel) ?_
        exact t_M_day_51 G l C hr hkh7 ih σ26 a0 (1 : Int32) a0 x1 x2 hk_a0 hk_a0 hf
theorem t_M_day_7 (G : ns_G) (l : Launch) {p : Program} {e : Env} {s : State} {m : MethodId} {args : Array Value} {below : List Frame} {meth : Method} {c : Code} (C : ns_Cx G p s m args meth c prog_11_method_77_code "NinthStepModel" 3) (hr : meth.sig.returnType = (some .int)) {r : Int32} {σ' : ns_St}  : ∀ (f : Nat) (σ : ns_St) (a0 : Nat) (x1 : Int32) (x2 : Int32) (hk_a0 : ns_kd a0 = 9), g_M_day_7 f σ a0 x1 x2 = some (r, σ') → VV G p l e { frames := 3, cells := 0, slots := 0, locals := 64 } s m args below meth c 3 0 0 (MQ below (ns_Qc G (some (.int r)) ns_N σ') args s 0 0 (ns_A G)) ns_N σ 7 [(0, .ref (G.1 + a0)), (1, .int x1), (2, .int x2)] [] := by
  intro f
  induction f with
  | zero =>
    intro σ a0 x1 x2 hk_a0 hf
    cases hf
  | succ f ih =>
    intro σ a0 x1 x2 hk_a0 hf
    rw [g_M_day_7] at hf
    refine v_iload_n C 2 2 rfl 8 rfl (by decide +kernel) ?_
    refine v_aload_n C 0 0 rfl 9 rfl (by decide +kernel) ?_
    refine v_getI C 9 5 rfl nin_9 (ns_kd_lt hk_a0 (by decide)) hk_a0 (by decide) (by decide) rfl 66 tw_980 rfl 12 rfl (by decide +kernel) ?_
    refine v_icmp_ge C 76 15 rfl (by decide +kernel) (fun h29 => ?_) (fun h29 => ?_)
    · have hf := ite2_t hf h29
      refine v_aload_n C 0 0 rfl 77 rfl (by decide +kernel) ?_
      refine v_getI C 9 13 rfl nin_9 (ns_kd_lt hk_a0 (by decide)) hk_a0 (by decide) (by decide) rfl 249 tw_988 rfl 80 rfl (by decide +kernel) ?_
      refine v_iload_n C 1 1 rfl 81 rfl (by decide +kernel) ?_
      refine v_isub C 82 rfl (by decide +kernel) ?_
      obtain ⟨rfl, rfl⟩ := ret_e hf
      exact v_iret C hr (by decide +kernel)
    · have hf := ite2_f hf h29
      refine v_aload_n C 0 0 rfl 16 rfl (by decide +kernel) ?_
      refine v_iload_n C 2 2 rfl 17 rfl (by decide +kernel) ?_
      obtain ⟨r31, σ30, hcr31, hf⟩ := cl2_e hf
      refine v_cV C 9 rfl (ns_kd_lt hk_a0 (by decide)) hk_a0 (by decide) [.int x2] [] (c_M_begins G l σ a0 x2 hcr31) 205 1 tw_1242 tw_1239 tw_1241 ts_91 tw_10 hd_M_begins rfl ⟨(Nat.le_of_ble_eq_true rfl), (Nat.le_of_ble_eq_true rfl)⟩ ⟨(Nat.le_of_ble_eq_true rfl), (Nat.le_of_ble_eq_true rfl)⟩ (Nat.le_of_ble_eq_true rfl) rfl 20 rfl (by decide +kernel) [] rfl ?_
      exact t_M_day_20 G l C hr ih ns_F σ30 a0 x1 x2 hk_a0 hf
theorem c_M_day (G : ns_G) (l : Launch) (σ : ns_St) (a0 : Nat) {r : Int32} {σ' : ns_St} (hf : g_M_day σ a0 = some (r, σ')) : ns_ok G l ⟨"NinthStepModel", "day", "()I"⟩ prog_11_method_77_code 3 (some .int) 3 64 0 0 [.ref (G.1 + a0)] ns_N σ (some (.int r)) ns_N σ' := by
  refine v_open (by decide) (Nat.le_of_ble_eq_true rfl) rfl ?_
  intro p e s m below meth c C hr _
  have C : ns_Cx G p s m _ meth c prog_11_method_77_code "NinthStepModel" 3 := C
  unfold g_M_day at hf
  obtain ⟨hk_a0, hf⟩ := grd_e hf
  refine v_aload_n C 0 0 rfl 1 rfl (by decide +kernel) ?_
  refine v_getI C 9 13 rfl nin_9 (ns_kd_lt hk_a0 (by decide)) hk_a0 (by decide) (by decide) rfl 249 tw_988 rfl 4 rfl (by decide +kernel) ?_
  obtain ⟨z32, hz32, hf⟩ := bnd_e hf
  refine v_nmI hz32 ?_
  refine v_istore_n C 1 [(1, .int z32), (0, .ref (G.1 + a0))] (by decide) rfl 5 rfl (by decide +kernel) ?_
  refine v_iconst C (0) (0) (by decide) 6 rfl (by decide +kernel) ?_
  refine v_istore_n C 2 [(2, .int (0 : Int32)), (1, .int z32), (0, .ref (G.1 + a0))] (by decide) rfl 7 rfl (by decide +kernel) ?_
  refine v_sub [2, 1, 0] rfl ?_
  exact t_M_day_7 G l C hr  ns_F σ a0 z32 (0 : Int32) hk_a0 hf
theorem hd_M_day : (⟨"NinthStepModel", "day", "()I"⟩ : MethodName).cls = "NinthStepModel" ∧ (⟨"NinthStepModel", "day", "()I"⟩ : MethodName).cls ≠ "java/lang/invoke/MethodHandle" ∧ (⟨"NinthStepModel", "day", "()I"⟩ : MethodName).cls ≠ "java/lang/invoke/VarHandle" ∧ (parseMethodDescriptor (⟨"NinthStepModel", "day", "()I"⟩ : MethodName).desc).map (fun d => d.parameters.length) = some 0 := by decide +kernel
def g_M_home_24 (kh4 : ns_St → Nat → Int32 → Int32 → Option (Int32 × ns_St)) (σ : ns_St) (a0 : Nat) (x1 : Int32) (x2 : Int32) : Option (Int32 × ns_St) := drf (σ.2.2 a0 8) fun b13 => grd (ns_kd b13 = 10) <| grd (ns_in x2 (ns_ln b13)) <| bnd (ns_pI σ b13 (ns_ix x2) (0 : Int32)) fun σ15 => drf (σ15.2.2 a0 9) fun b16 => grd (ns_kd b16 = 10) <| grd (ns_in x2 (ns_ln b16)) <| bnd (ns_pI σ15 b16 (ns_ix x2) (0 : Int32)) fun σ18 => bnd (x2 + 1) fun z19 => kh4 σ18 a0 x1 z19
def g_M_home_4  : Nat → ns_St → Nat → Int32 → Int32 → Option (Int32 × ns_St)
  | 0, _, _, _, _ => none
  | f + 1, σ, a0, x1, x2 => ite2 ((σ.1 a0 5) ≤ x2) (some (x1, σ)) (drf (σ.2.2 a0 8) fun b21 => grd (ns_kd b21 = 10) <| grd (ns_in x2 (ns_ln b21)) <| ite2 ((σ.1 b21 (ns_ix x2)) ≤ 0) (g_M_home_24 (g_M_home_4 f) σ a0 x1 x2) (bnd (x1 + 1) fun z24 => g_M_home_24 (g_M_home_4 f) σ a0 z24 x2))
def g_M_home (σ : ns_St) (a0 : Nat) : Option (Int32 × ns_St) := grd (ns_kd a0 = 9) <| g_M_home_4 ns_F σ a0 (0 : Int32) (0 : Int32)
theorem t_M_home_24 (G : ns_G) (l : Launch) {p : Program} {e : Env} {s : State} {m : MethodId} {args : Array Value} {below : List Frame} {meth : Method} {c : Code} (C : ns_Cx G p s m args meth c prog_11_method_78_code "NinthStepModel" 3) (hr : meth.sig.returnType = (some .int)) {r : Int32} {σ' : ns_St} {kh4 : ns_St → Nat → Int32 → Int32 → Option (Int32 × ns_St)} (hkh4 : ∀ (σ : ns_St) (a0 : Nat) (x1 : Int32) (x2 : Int32), ns_kd a0 = 9 → kh4 σ a0 x1 x2 = some (r, σ') → VV G p l e { frames := 0, cells := 0, slots := 0, locals := 0 } s m args below meth c 3 0 0 (MQ below (ns_Qc G (some (.int r)) ns_N σ') args s 0 0 (ns_A G)) ns_N σ 4 [(0, .ref (G.1 + a0)), (1, .int x1), (2, .int x2)] []) (σ : ns_St) (a0 : Nat) (x1 : Int32) (x2 : Int32) (hk_a0 : ns_kd a0 = 9) (hf : g_M_home_24 kh4 σ a0 x1 x2 = some (r, σ')) : VV G p l e { frames := 0, cells := 0, slots := 0, locals := 0 } s m args below meth c 3 0 0 (MQ below (ns_Qc G (some (.int r)) ns_N σ') args s 0 0 (ns_A G)) ns_N σ 24 [(0, .ref (G.1 + a0)), (1, .int x1), (2, .int x2)] [] := by
  unfold g_M_home_24 at hf
  refine v_aload_n C 0 0 rfl 25 rfl (by decide +kernel) ?_
  obtain ⟨b13, hb13, hf⟩ := drf_e hf
  obtain ⟨hk_b13, hf⟩ := grd_e hf
  refine v_getR C 9 8 hb13 rfl nin_9 (ns_kd_lt hk_a0 (by decide)) hk_a0 (by decide) (by decide) rfl 29 tw_983 rfl 28 rfl (by decide +kernel) ?_
  refine v_iload_n C 2 2 rfl 29 rfl (by decide +kernel) ?_
  refine v_iconst C (0) (0) (by decide) 30 rfl (by decide +kernel) ?_
  obtain ⟨hi14, hf⟩ := grd_e hf
  obtain ⟨σ15, hσ15, hf⟩ := bnd_e hf
  refine v_iast C hσ15 (ns_kd_lt hk_b13 (by decide)) hk_b13 hi14 31 rfl (by decide +kernel) ?_
  refine v_aload_n C 0 0 rfl 32 rfl (by decide +kernel) ?_
  obtain ⟨b16, hb16, hf⟩ := drf_e hf
  obtain ⟨hk_b16, hf⟩ := grd_e hf
  refine v_getR C 9 9 hb16 rfl nin_9 (ns_kd_lt hk_a0 (by decide)) hk_a0 (by decide) (by decide) rfl 32 tw_984 rfl 35 rfl (by decide +kernel) ?_
  refine v_iload_n C 2 2 rfl 36 rfl (by decide +kernel) ?_
  refine v_iconst C (0) (0) (by decide) 37 rfl (by decide +kernel) ?_
  obtain ⟨hi17, hf⟩ := grd_e hf
  obtain ⟨σ18, hσ18, hf⟩ := bnd_e hf
  refine v_iast C hσ18 (ns_kd_lt hk_b16 (by decide)) hk_b16 hi17 38 rfl (by decide +kernel) ?_
  obtain ⟨z19, hz19, hf⟩ := bnd_e hf
  refine v_iinc C 2 (1) 2 z19 rfl (by rw [hz19]; rfl) [(2, .int z19), (0, .ref (G.1 + a0)), (1, .int x1)] (by decide) rfl 41 rfl (by decide +kernel) ?_
  refine v_goto C 4 (by decide +kernel) ?_
  refine v_sub [1, 2, 0] rfl ?_
  exact hkh4 σ18 a0 x1 z19 hk_a0 hf
theorem t_M_home_4 (G : ns_G) (l : Launch) {p : Program} {e : Env} {s : State} {m : MethodId} {args : Array Value} {below : List Frame} {meth : Method} {c : Code} (C : ns_Cx G p s m args meth c prog_11_method_78_code "NinthStepModel" 3) (hr : meth.sig.returnType = (some .int)) {r : Int32} {σ' : ns_St}  : ∀ (f : Nat) (σ : ns_St) (a0 : Nat) (x1 : Int32) (x2 : Int32) (hk_a0 : ns_kd a0 = 9), g_M_home_4 f σ a0 x1 x2 = some (r, σ') → VV G p l e { frames := 0, cells := 0, slots := 0, locals := 0 } s m args below meth c 3 0 0 (MQ below (ns_Qc G (some (.int r)) ns_N σ') args s 0 0 (ns_A G)) ns_N σ 4 [(0, .ref (G.1 + a0)), (1, .int x1), (2, .int x2)] [] := by
  intro f
  induction f with
  | zero =>
    intro σ a0 x1 x2 hk_a0 hf
    cases hf
  | succ f ih =>
    intro σ a0 x1 x2 hk_a0 hf
    rw [g_M_home_4] at hf
    refine v_iload_n C 2 2 rfl 5 rfl (by decide +kernel) ?_
    refine v_aload_n C 0 0 rfl 6 rfl (by decide +kernel) ?_
    refine v_getI C 9 5 rfl nin_9 (ns_kd_lt hk_a0 (by decide)) hk_a0 (by decide) (by decide) rfl 66 tw_980 rfl 9 rfl (by decide +kernel) ?_
    refine v_icmp_ge C 44 12 rfl (by decide +kernel) (fun h20 => ?_) (fun h20 => ?_)
    · have hf := ite2_t hf h20
      refine v_iload_n C 1 1 rfl 45 rfl (by decide +kernel) ?_
      obtain ⟨rfl, rfl⟩ := ret_e hf
      exact v_iret C hr (by decide +kernel)
    · have hf := ite2_f hf h20
      refine v_aload_n C 0 0 rfl 13 rfl (by decide +kernel) ?_
      obtain ⟨b21, hb21, hf⟩ := drf_e hf
      obtain ⟨hk_b21, hf⟩ := grd_e hf
      refine v_getR C 9 8 hb21 rfl nin_9 (ns_kd_lt hk_a0 (by decide)) hk_a0 (by decide) (by decide) rfl 29 tw_983 rfl 16 rfl (by decide +kernel) ?_
      refine v_iload_n C 2 2 rfl 17 rfl (by decide +kernel) ?_
      obtain ⟨hi22, hf⟩ := grd_e hf
      refine v_iald C (ns_kd_lt hk_b21 (by decide)) hk_b21 hi22 18 rfl (by decide +kernel) ?_
      refine v_if_le C 24 21 rfl (by decide +kernel) (fun h23 => ?_) (fun h23 => ?_)
      · have hf := ite2_t hf h23
        exact t_M_home_24 G l C hr ih σ a0 x1 x2 hk_a0 hf
      · have hf := ite2_f hf h23
        obtain ⟨z24, hz24, hf⟩ := bnd_e hf
        refine v_iinc C 1 (1) 1 z24 rfl (by rw [hz24]; rfl) [(1, .int z24), (0, .ref (G.1 + a0)), (2, .int x2)] (by decide) rfl 24 rfl (by decide +kernel) ?_
        refine v_sub [1, 0, 2] rfl ?_
        exact t_M_home_24 G l C hr ih σ a0 z24 x2 hk_a0 hf
theorem c_M_home (G : ns_G) (l : Launch) (σ : ns_St) (a0 : Nat) {r : Int32} {σ' : ns_St} (hf : g_M_home σ a0 = some (r, σ')) : ns_ok G l ⟨"NinthStepModel", "home", "()I"⟩ prog_11_method_78_code 3 (some .int) 0 0 0 0 [.ref (G.1 + a0)] ns_N σ (some (.int r)) ns_N σ' := by
  refine v_open (by decide) (Nat.le_of_ble_eq_true rfl) rfl ?_
  intro p e s m below meth c C hr _
  have C : ns_Cx G p s m _ meth c prog_11_method_78_code "NinthStepModel" 3 := C
  unfold g_M_home at hf
  obtain ⟨hk_a0, hf⟩ := grd_e hf
  refine v_iconst C (0) (0) (by decide) 1 rfl (by decide +kernel) ?_
  refine v_istore_n C 1 [(1, .int (0 : Int32)), (0, .ref (G.1 + a0))] (by decide) rfl 2 rfl (by decide +kernel) ?_
  refine v_iconst C (0) (0) (by decide) 3 rfl (by decide +kernel) ?_
  refine v_istore_n C 2 [(2, .int (0 : Int32)), (1, .int (0 : Int32)), (0, .ref (G.1 + a0))] (by decide) rfl 4 rfl (by decide +kernel) ?_
  refine v_sub [2, 1, 0] rfl ?_
  exact t_M_home_4 G l C hr  ns_F σ a0 (0 : Int32) (0 : Int32) hk_a0 hf
theorem hd_M_home : (⟨"NinthStepModel", "home", "()I"⟩ : MethodName).cls = "NinthStepModel" ∧ (⟨"NinthStepModel", "home", "()I"⟩ : MethodName).cls ≠ "java/lang/invoke/MethodHandle" ∧ (⟨"NinthStepModel", "home", "()I"⟩ : MethodName).cls ≠ "java/lang/invoke/VarHandle" ∧ (parseMethodDescriptor (⟨"NinthStepModel", "home", "()I"⟩ : MethodName).desc).map (fun d => d.parameters.length) = some 0 := by decide +kernel
def g_M_seed (σ : ns_St) (a0 : Nat) (x1 : Int32) : Option (Int32 × ns_St) := grd (ns_kd a0 = 9) <| bnd (σ.1 a0 14) fun z3 => bnd (ns_pI σ a0 14 x1) fun σ4 => some (z3, σ4)
theorem c_M_seed (G : ns_G) (l : Launch) (σ : ns_St) (a0 : Nat) (x1 : Int32) {r : Int32} {σ' : ns_St} (hf : g_M_seed σ a0 x1 = some (r, σ')) : ns_ok G l ⟨"NinthStepModel", "seed", "(I)I"⟩ prog_11_method_79_code 3 (some .int) 0 0 0 0 [.ref (G.1 + a0), .int x1] ns_N σ (some (.int r)) ns_N σ' := by
  refine v_open (by decide) (Nat.le_of_ble_eq_true rfl) rfl ?_
  intro p e s m below meth c C hr _
  have C : ns_Cx G p s m _ meth c prog_11_method_79_code "NinthStepModel" 3 := C
  unfold g_M_seed at hf
  obtain ⟨hk_a0, hf⟩ := grd_e hf
  refine v_aload_n C 0 0 rfl 1 rfl (by decide +kernel) ?_
  refine v_getI C 9 14 rfl nin_9 (ns_kd_lt hk_a0 (by decide)) hk_a0 (by decide) (by decide) rfl 63 tw_989 rfl 4 rfl (by decide +kernel) ?_
  obtain ⟨z3, hz3, hf⟩ := bnd_e hf
  refine v_nmI hz3 ?_
  refine v_istore_n C 2 [(2, .int z3), (0, .ref (G.1 + a0)), (1, .int x1)] (by decide) rfl 5 rfl (by decide +kernel) ?_
  refine v_aload_n C 0 1 rfl 6 rfl (by decide +kernel) ?_
  refine v_iload_n C 1 2 rfl 7 rfl (by decide +kernel) ?_
  obtain ⟨σ4, hσ4, hf⟩ := bnd_e hf
  refine v_putI C 9 14 hσ4 rfl nin_9 ny_9 nty_9 nnm_9 (ns_kd_lt hk_a0 (by decide)) hk_a0 (by decide) (by decide) rfl rfl rfl rfl 63 tw_989 rfl 10 rfl (by decide +kernel) ?_
  refine v_iload_n C 2 0 rfl 11 rfl (by decide +kernel) ?_
  obtain ⟨rfl, rfl⟩ := ret_e hf
  exact v_iret C hr (by decide +kernel)
theorem hd_M_seed : (⟨"NinthStepModel", "seed", "(I)I"⟩ : MethodName).cls = "NinthStepModel" ∧ (⟨"NinthStepModel", "seed", "(I)I"⟩ : MethodName).cls ≠ "java/lang/invoke/MethodHandle" ∧ (⟨"NinthStepModel", "seed", "(I)I"⟩ : MethodName).cls ≠ "java/lang/invoke/VarHandle" ∧ (parseMethodDescriptor (⟨"NinthStepModel", "seed", "(I)I"⟩ : MethodName).desc).map (fun d => d.parameters.length) = some 1 := by decide +kernel
def g_M_image (σ : ns_St) (a0 : Nat) : Option (Int32 × ns_St) := grd (ns_kd a0 = 9) <| bnd (ns_pI σ a0 22 (1 : Int32)) fun σ5 => drf (σ5.2.2 a0 23) fun b6 => grd (ns_kd b6 = 10) <| cl2 (g_M_keep σ5 a0 b6) fun r8 σ7 => some ((1 : Int32), σ7)
theorem c_M_image (G : ns_G) (l : Launch) (σ : ns_St) (a0 : Nat) {r : Int32} {σ' : ns_St} (hf : g_M_image σ a0 = some (r, σ')) : ns_ok G l ⟨"NinthStepModel", "image", "()I"⟩ prog_11_method_82_code 1 (some .int) 1 22 0 0 [.ref (G.1 + a0)] ns_N σ (some (.int r)) ns_N σ' := by
  refine v_open (by decide) (Nat.le_of_ble_eq_true rfl) rfl ?_
  intro p e s m below meth c C hr _
  have C : ns_Cx G p s m _ meth c prog_11_method_82_code "NinthStepModel" 1 := C
  unfold g_M_image at hf
  obtain ⟨hk_a0, hf⟩ := grd_e hf
  refine v_aload_n C 0 0 rfl 1 rfl (by decide +kernel) ?_
  refine v_iconst C (1) (1) (by decide) 2 rfl (by decide +kernel) ?_
  obtain ⟨σ5, hσ5, hf⟩ := bnd_e hf
  refine v_putI C 9 22 hσ5 rfl nin_9 ny_9 nty_9 nnm_9 (ns_kd_lt hk_a0 (by decide)) hk_a0 (by decide) (by decide) rfl rfl (by decide +kernel) (by decide +kernel) 262 tw_997 rfl 5 rfl (by decide +kernel) ?_
  refine v_aload_n C 0 0 rfl 6 rfl (by decide +kernel) ?_
  refine v_aload_n C 0 0 rfl 7 rfl (by decide +kernel) ?_
  obtain ⟨b6, hb6, hf⟩ := drf_e hf
  obtain ⟨hk_b6, hf⟩ := grd_e hf
  refine v_getR C 9 23 hb6 rfl nin_9 (ns_kd_lt hk_a0 (by decide)) hk_a0 (by decide) (by decide) rfl 47 tw_998 rfl 10 rfl (by decide +kernel) ?_
  obtain ⟨r8, σ7, hcr8, hf⟩ := cl2_e hf
  refine v_cV C 9 rfl (ns_kd_lt hk_a0 (by decide)) hk_a0 (by decide) [.ref (G.1 + b6)] [] (c_M_keep G l σ5 a0 b6 hcr8) 174 1 tw_1190 tw_1187 tw_1189 ts_85 tw_10 hd_M_keep rfl ⟨(Nat.le_of_ble_eq_true rfl), (Nat.le_of_ble_eq_true rfl)⟩ ⟨(Nat.le_of_ble_eq_true rfl), (Nat.le_of_ble_eq_true rfl)⟩ (Nat.le_of_ble_eq_true rfl) rfl 13 rfl (by decide +kernel) [] rfl ?_
  refine v_iconst C (1) (1) (by decide) 14 rfl (by decide +kernel) ?_
  obtain ⟨rfl, rfl⟩ := ret_e hf
  exact v_iret C hr (by decide +kernel)
theorem hd_M_image : (⟨"NinthStepModel", "image", "()I"⟩ : MethodName).cls = "NinthStepModel" ∧ (⟨"NinthStepModel", "image", "()I"⟩ : MethodName).cls ≠ "java/lang/invoke/MethodHandle" ∧ (⟨"NinthStepModel", "image", "()I"⟩ : MethodName).cls ≠ "java/lang/invoke/VarHandle" ∧ (parseMethodDescriptor (⟨"NinthStepModel", "image", "()I"⟩ : MethodName).desc).map (fun d => d.parameters.length) = some 0 := by decide +kernel
def g_M_back_24  : Nat → ns_St → Nat → Int32 → Option (Int32 × ns_St)
  | 0, _, _, _ => none
  | f + 1, σ, a0, x1 => ite2 ((8 : Int32) ≤ x1) (some ((1 : Int32), σ)) (drf (σ.2.2 a0 0) fun b17 => grd (ns_kd b17 = 10) <| grd (ns_in x1 (ns_ln b17)) <| ite2 ((σ.1 b17 (ns_ix x1)) < ((10 : Int32) + (σ.1 a0 5))) (bnd (x1 + 1) fun z20 => (g_M_back_24 f) σ a0 z20) (drf (σ.2.2 a0 0) fun b21 => grd (ns_kd b21 = 10) <| grd (ns_in x1 (ns_ln b21)) <| bnd (ns_pI σ b21 (ns_ix x1) (-1 : Int32)) fun σ23 => bnd (x1 + 1) fun z24 => (g_M_back_24 f) σ23 a0 z24))
def g_M_back (σ : ns_St) (a0 : Nat) : Option (Int32 × ns_St) := grd (ns_kd a0 = 9) <| ite2 ((σ.1 a0 22) = 0) (cl2 (g_M_no σ a0 (-5 : Int32)) fun r30 σ29 => some (r30, σ29)) (drf (σ.2.2 a0 23) fun b26 => grd (ns_kd b26 = 10) <| cl2 (g_M_again σ a0 b26) fun r28 σ27 => g_M_back_24 ns_F σ27 a0 (0 : Int32))
theorem t_M_back_24 (G : ns_G) (l : Launch) {p : Program} {e : Env} {s : State} {m : MethodId} {args : Array Value} {below : List Frame} {meth : Method} {c : Code} (C : ns_Cx G p s m args meth c prog_11_method_83_code "NinthStepModel" 2) (hr : meth.sig.returnType = (some .int)) {r : Int32} {σ' : ns_St}  : ∀ (f : Nat) (σ : ns_St) (a0 : Nat) (x1 : Int32) (hk_a0 : ns_kd a0 = 9), g_M_back_24 f σ a0 x1 = some (r, σ') → VV G p l e { frames := 1, cells := 0, slots := 0, locals := 22 } s m args below meth c 2 0 0 (MQ below (ns_Qc G (some (.int r)) ns_N σ') args s 0 0 (ns_A G)) ns_N σ 24 [(0, .ref (G.1 + a0)), (1, .int x1)] [] := by
  intro f
  induction f with
  | zero =>
    intro σ a0 x1 hk_a0 hf
    cases hf
  | succ f ih =>
    intro σ a0 x1 hk_a0 hf
    rw [g_M_back_24] at hf
    refine v_iload_n C 1 1 rfl 25 rfl (by decide +kernel) ?_
    refine v_bipush C (8) (8) (by decide) 27 rfl (by decide +kernel) ?_
    refine v_icmp_ge C 59 30 rfl (by decide +kernel) (fun h16 => ?_) (fun h16 => ?_)
    · have hf := ite2_t hf h16
      refine v_iconst C (1) (1) (by decide) 60 rfl (by decide +kernel) ?_
      obtain ⟨rfl, rfl⟩ := ret_e hf
      exact v_iret C hr (by decide +kernel)
    · have hf := ite2_f hf h16
      refine v_aload_n C 0 0 rfl 31 rfl (by decide +kernel) ?_
      obtain ⟨b17, hb17, hf⟩ := drf_e hf
      obtain ⟨hk_b17, hf⟩ := grd_e hf
      refine v_getR C 9 0 hb17 rfl nin_9 (ns_kd_lt hk_a0 (by decide)) hk_a0 (by decide) (by decide) rfl 7 tw_975 rfl 34 rfl (by decide +kernel) ?_
      refine v_iload_n C 1 1 rfl 35 rfl (by decide +kernel) ?_
      obtain ⟨hi18, hf⟩ := grd_e hf
      refine v_iald C (ns_kd_lt hk_b17 (by decide)) hk_b17 hi18 36 rfl (by decide +kernel) ?_
      refine v_bipush C (10) (10) (by decide) 38 rfl (by decide +kernel) ?_
      refine v_aload_n C 0 0 rfl 39 rfl (by decide +kernel) ?_
      refine v_getI C 9 5 rfl nin_9 (ns_kd_lt hk_a0 (by decide)) hk_a0 (by decide) (by decide) rfl 66 tw_980 rfl 42 rfl (by decide +kernel) ?_
      refine v_iadd C 43 rfl (by decide +kernel) ?_
      refine v_icmp_lt C 53 46 rfl (by decide +kernel) (fun h19 => ?_) (fun h19 => ?_)
      · have hf := ite2_t hf h19
        obtain ⟨z20, hz20, hf⟩ := bnd_e hf
        refine v_iinc C 1 (1) 1 z20 rfl (by rw [hz20]; rfl) [(1, .int z20), (0, .ref (G.1 + a0))] (by decide) rfl 56 rfl (by decide +kernel) ?_
        refine v_goto C 24 (by decide +kernel) ?_
        refine v_sub [1, 0] rfl ?_
        exact ih σ a0 z20 hk_a0 hf
      · have hf := ite2_f hf h19
        refine v_aload_n C 0 0 rfl 47 rfl (by decide +kernel) ?_
        obtain ⟨b21, hb21, hf⟩ := drf_e hf
        obtain ⟨hk_b21, hf⟩ := grd_e hf
        refine v_getR C 9 0 hb21 rfl nin_9 (ns_kd_lt hk_a0 (by decide)) hk_a0 (by decide) (by decide) rfl 7 tw_975 rfl 50 rfl (by decide +kernel) ?_
        refine v_iload_n C 1 1 rfl 51 rfl (by decide +kernel) ?_
        refine v_iconst C (-1) (-1) (by decide) 52 rfl (by decide +kernel) ?_
        obtain ⟨hi22, hf⟩ := grd_e hf
        obtain ⟨σ23, hσ23, hf⟩ := bnd_e hf
        refine v_iast C hσ23 (ns_kd_lt hk_b21 (by decide)) hk_b21 hi22 53 rfl (by decide +kernel) ?_
        obtain ⟨z24, hz24, hf⟩ := bnd_e hf
        refine v_iinc C 1 (1) 1 z24 rfl (by rw [hz24]; rfl) [(1, .int z24), (0, .ref (G.1 + a0))] (by decide) rfl 56 rfl (by decide +kernel) ?_
        refine v_goto C 24 (by decide +kernel) ?_
        refine v_sub [1, 0] rfl ?_
        exact ih σ23 a0 z24 hk_a0 hf
theorem c_M_back (G : ns_G) (l : Launch) (σ : ns_St) (a0 : Nat) {r : Int32} {σ' : ns_St} (hf : g_M_back σ a0 = some (r, σ')) : ns_ok G l ⟨"NinthStepModel", "back", "()I"⟩ prog_11_method_83_code 2 (some .int) 1 22 0 0 [.ref (G.1 + a0)] ns_N σ (some (.int r)) ns_N σ' := by
  refine v_open (by decide) (Nat.le_of_ble_eq_true rfl) rfl ?_
  intro p e s m below meth c C hr _
  have C : ns_Cx G p s m _ meth c prog_11_method_83_code "NinthStepModel" 2 := C
  unfold g_M_back at hf
  obtain ⟨hk_a0, hf⟩ := grd_e hf
  refine v_aload_n C 0 0 rfl 1 rfl (by decide +kernel) ?_
  refine v_getI C 9 22 rfl nin_9 (ns_kd_lt hk_a0 (by decide)) hk_a0 (by decide) (by decide) rfl 262 tw_997 rfl 4 rfl (by decide +kernel) ?_
  refine v_if_ne C 14 7 rfl (by decide +kernel) (fun h25 => ?_) (fun h25 => ?_)
  · have hf := ite2_f hf h25
    refine v_aload_n C 0 0 rfl 15 rfl (by decide +kernel) ?_
    refine v_aload_n C 0 0 rfl 16 rfl (by decide +kernel) ?_
    obtain ⟨b26, hb26, hf⟩ := drf_e hf
    obtain ⟨hk_b26, hf⟩ := grd_e hf
    refine v_getR C 9 23 hb26 rfl nin_9 (ns_kd_lt hk_a0 (by decide)) hk_a0 (by decide) (by decide) rfl 47 tw_998 rfl 19 rfl (by decide +kernel) ?_
    obtain ⟨r28, σ27, hcr28, hf⟩ := cl2_e hf
    refine v_cV C 9 rfl (ns_kd_lt hk_a0 (by decide)) hk_a0 (by decide) [.ref (G.1 + b26)] [] (c_M_again G l σ a0 b26 hcr28) 182 1 tw_1226 tw_1223 tw_1225 ts_90 tw_10 hd_M_again rfl ⟨(Nat.le_of_ble_eq_true rfl), (Nat.le_of_ble_eq_true rfl)⟩ ⟨(Nat.le_of_ble_eq_true rfl), (Nat.le_of_ble_eq_true rfl)⟩ (Nat.le_of_ble_eq_true rfl) rfl 22 rfl (by decide +kernel) [] rfl ?_
    refine v_iconst C (0) (0) (by decide) 23 rfl (by decide +kernel) ?_
    refine v_istore_n C 1 [(1, .int (0 : Int32)), (0, .ref (G.1 + a0))] (by decide) rfl 24 rfl (by decide +kernel) ?_
    refine v_sub [1, 0] rfl ?_
    exact t_M_back_24 G l C hr  ns_F σ27 a0 (0 : Int32) hk_a0 hf
  · have hf := ite2_t hf h25
    refine v_aload_n C 0 0 rfl 8 rfl (by decide +kernel) ?_
    refine v_bipush C (-5) (-5) (by decide) 10 rfl (by decide +kernel) ?_
    obtain ⟨r30, σ29, hcr30, hf⟩ := cl2_e hf
    refine v_cV C 9 rfl (ns_kd_lt hk_a0 (by decide)) hk_a0 (by decide) [.int (-5 : Int32)] [] (c_M_no G l σ a0 (-5 : Int32) hcr30) 73 1 tw_1079 tw_1076 tw_1078 ts_73 tw_10 hd_M_no rfl ⟨(Nat.le_of_ble_eq_true rfl), (Nat.le_of_ble_eq_true rfl)⟩ ⟨(Nat.le_of_ble_eq_true rfl), (Nat.le_of_ble_eq_true rfl)⟩ (Nat.le_of_ble_eq_true rfl) rfl 13 rfl (by decide +kernel) [.int r30] rfl ?_
    obtain ⟨rfl, rfl⟩ := ret_e hf
    exact v_iret C hr (by decide +kernel)
theorem hd_M_back : (⟨"NinthStepModel", "back", "()I"⟩ : MethodName).cls = "NinthStepModel" ∧ (⟨"NinthStepModel", "back", "()I"⟩ : MethodName).cls ≠ "java/lang/invoke/MethodHandle" ∧ (⟨"NinthStepModel", "back", "()I"⟩ : MethodName).cls ≠ "java/lang/invoke/VarHandle" ∧ (parseMethodDescriptor (⟨"NinthStepModel", "back", "()I"⟩ : MethodName).desc).map (fun d => d.parameters.length) = some 0 := by decide +kernel
def g_M_those_4  : Nat → ns_St → Nat → Int32 → Int32 → Int32 → Option (Int32 × ns_St)
  | 0, _, _, _, _, _ => none
  | f + 1, σ, a0, x1, x2, x3 => ite2 ((σ.1 a0 3) < x3) (some (x2, σ)) (cl2 (g_M_isThere σ a0 x3 x1) fun r10 σ9 => ite2 (r10 = 0) (bnd (x3 + 1) fun z12 => (g_M_those_4 f) σ9 a0 x1 x2 z12) (bnd (x2 + 1) fun z13 => bnd (x3 + 1) fun z14 => (g_M_those_4 f) σ9 a0 x1 z13 z14))
def g_M_those (σ : ns_St) (a0 : Nat) (x1 : Int32) : Option (Int32 × ns_St) := grd (ns_kd a0 = 9) <| g_M_those_4 ns_F σ a0 x1 (0 : Int32) (0 : Int32)
theorem t_M_those_4 (G : ns_G) (l : Launch) {p : Program} {e : Env} {s : State} {m : MethodId} {args : Array Value} {below : List Frame} {meth : Method} {c : Code} (C : ns_Cx G p s m args meth c prog_11_method_84_code "NinthStepModel" 4) (hr : meth.sig.returnType = (some .int)) {r : Int32} {σ' : ns_St}  : ∀ (f : Nat) (σ : ns_St) (a0 : Nat) (x1 : Int32) (x2 : Int32) (x3 : Int32) (hk_a0 : ns_kd a0 = 9), g_M_those_4 f σ a0 x1 x2 x3 = some (r, σ') → VV G p l e { frames := 1, cells := 0, slots := 0, locals := 22 } s m args below meth c 4 0 0 (MQ below (ns_Qc G (some (.int r)) ns_N σ') args s 0 0 (ns_A G)) ns_N σ 4 [(0, .ref (G.1 + a0)), (1, .int x1), (2, .int x2), (3, .int x3)] [] := by
  intro f
  induction f with
  | zero =>
    intro σ a0 x1 x2 x3 hk_a0 hf
    cases hf
  | succ f ih =>
    intro σ a0 x1 x2 x3 hk_a0 hf
    rw [g_M_those_4] at hf
    refine v_iload_n C 3 3 rfl 5 rfl (by decide +kernel) ?_
    refine v_aload_n C 0 0 rfl 6 rfl (by decide +kernel) ?_
    refine v_getI C 9 3 rfl nin_9 (ns_kd_lt hk_a0 (by decide)) hk_a0 (by decide) (by decide) rfl 59 tw_978 rfl 9 rfl (by decide +kernel) ?_
    refine v_icmp_gt C 30 12 rfl (by decide +kernel) (fun h8 => ?_) (fun h8 => ?_)
    · have hf := ite2_t hf h8
      refine v_iload_n C 2 2 rfl 31 rfl (by decide +kernel) ?_
      obtain ⟨rfl, rfl⟩ := ret_e hf
      exact v_iret C hr (by decide +kernel)
    · have hf := ite2_f hf h8
      refine v_aload_n C 0 0 rfl 13 rfl (by decide +kernel) ?_
      refine v_iload_n C 3 3 rfl 14 rfl (by decide +kernel) ?_
      refine v_iload_n C 1 1 rfl 15 rfl (by decide +kernel) ?_
      obtain ⟨r10, σ9, hcr10, hf⟩ := cl2_e hf
      refine v_cV C 9 rfl (ns_kd_lt hk_a0 (by decide)) hk_a0 (by decide) [.int x3, .int x1] [] (c_M_isThere G l σ a0 x3 x1 hcr10) 87 2 tw_1130 tw_1127 tw_1129 ts_79 tw_10 hd_M_isThere rfl ⟨(Nat.le_of_ble_eq_true rfl), (Nat.le_of_ble_eq_true rfl)⟩ ⟨(Nat.le_of_ble_eq_true rfl), (Nat.le_of_ble_eq_true rfl)⟩ (Nat.le_of_ble_eq_true rfl) rfl 18 rfl (by decide +kernel) [.int r10] rfl ?_
      refine v_if_eq C 24 21 rfl (by decide +kernel) (fun h11 => ?_) (fun h11 => ?_)
      · have hf := ite2_t hf h11
        obtain ⟨z12, hz12, hf⟩ := bnd_e hf
        refine v_iinc C 3 (1) 3 z12 rfl (by rw [hz12]; rfl) [(3, .int z12), (0, .ref (G.1 + a0)), (1, .int x1), (2, .int x2)] (by decide) rfl 27 rfl (by decide +kernel) ?_
        refine v_goto C 4 (by decide +kernel) ?_
        refine v_sub [1, 2, 3, 0] rfl ?_
        exact ih σ9 a0 x1 x2 z12 hk_a0 hf
      · have hf := ite2_f hf h11
        obtain ⟨z13, hz13, hf⟩ := bnd_e hf
        refine v_iinc C 2 (1) 2 z13 rfl (by rw [hz13]; rfl) [(2, .int z13), (0, .ref (G.1 + a0)), (1, .int x1), (3, .int x3)] (by decide) rfl 24 rfl (by decide +kernel) ?_
        obtain ⟨z14, hz14, hf⟩ := bnd_e hf
        refine v_iinc C 3 (1) 3 z14 rfl (by rw [hz14]; rfl) [(3, .int z14), (2, .int z13), (0, .ref (G.1 + a0)), (1, .int x1)] (by decide) rfl 27 rfl (by decide +kernel) ?_
        refine v_goto C 4 (by decide +kernel) ?_
        refine v_sub [2, 3, 1, 0] rfl ?_
        exact ih σ9 a0 x1 z13 z14 hk_a0 hf
theorem c_M_those (G : ns_G) (l : Launch) (σ : ns_St) (a0 : Nat) (x1 : Int32) {r : Int32} {σ' : ns_St} (hf : g_M_those σ a0 x1 = some (r, σ')) : ns_ok G l ⟨"NinthStepModel", "those", "(I)I"⟩ prog_11_method_84_code 4 (some .int) 1 22 0 0 [.ref (G.1 + a0), .int x1] ns_N σ (some (.int r)) ns_N σ' := by
  refine v_open (by decide) (Nat.le_of_ble_eq_true rfl) rfl ?_
  intro p e s m below meth c C hr _
  have C : ns_Cx G p s m _ meth c prog_11_method_84_code "NinthStepModel" 4 := C
  unfold g_M_those at hf
  obtain ⟨hk_a0, hf⟩ := grd_e hf
  refine v_iconst C (0) (0) (by decide) 1 rfl (by decide +kernel) ?_
  refine v_istore_n C 2 [(2, .int (0 : Int32)), (0, .ref (G.1 + a0)), (1, .int x1)] (by decide) rfl 2 rfl (by decide +kernel) ?_
  refine v_iconst C (0) (0) (by decide) 3 rfl (by decide +kernel) ?_
  refine v_istore_n C 3 [(3, .int (0 : Int32)), (2, .int (0 : Int32)), (0, .ref (G.1 + a0)), (1, .int x1)] (by decide) rfl 4 rfl (by decide +kernel) ?_
  refine v_sub [2, 3, 1, 0] rfl ?_
  exact t_M_those_4 G l C hr  ns_F σ a0 x1 (0 : Int32) (0 : Int32) hk_a0 hf
theorem hd_M_those : (⟨"NinthStepModel", "those", "(I)I"⟩ : MethodName).cls = "NinthStepModel" ∧ (⟨"NinthStepModel", "those", "(I)I"⟩ : MethodName).cls ≠ "java/lang/invoke/MethodHandle" ∧ (⟨"NinthStepModel", "those", "(I)I"⟩ : MethodName).cls ≠ "java/lang/invoke/VarHandle" ∧ (parseMethodDescriptor (⟨"NinthStepModel", "those", "(I)I"⟩ : MethodName).desc).map (fun d => d.parameters.length) = some 1 := by decide +kernel
def g_M_status_117  : Nat → ns_St → Nat → Int32 → Int32 → Option (Int32 × ns_St)
  | 0, _, _, _, _ => none
  | f + 1, σ, a0, x2, x3 => ite2 ((8 : Int32) ≤ x3) (some (x2, σ)) (drf (σ.2.2 a0 0) fun b33 => grd (ns_kd b33 = 10) <| grd (ns_in x3 (ns_ln b33)) <| ite2 ((σ.1 b33 (ns_ix x3)) = (-1 : Int32)) (bnd (x3 + 1) fun z36 => (g_M_status_117 f) σ a0 x2 z36) (bnd (x2 + 1) fun z37 => bnd (x3 + 1) fun z38 => (g_M_status_117 f) σ a0 z37 z38))
def g_M_status (σ : ns_St) (a0 : Nat) (x1 : Int32) : Option (Int32 × ns_St) := grd (ns_kd a0 = 9) <| ite2 (x1 = 0) (some ((σ.1 a0 3), σ)) (ite2 (x1 = 1) (some ((σ.1 a0 5), σ)) (ite2 (x1 = 2) (cl2 (g_M_those σ a0 (1 : Int32)) fun r43 σ42 => some (r43, σ42)) (ite2 (x1 = 3) (cl2 (g_M_those σ a0 (2 : Int32)) fun r46 σ45 => some (r46, σ45)) (ite2 (x1 = 4) (cl2 (g_M_those σ a0 (4 : Int32)) fun r49 σ48 => some (r49, σ48)) (ite2 (x1 = 5) (cl2 (g_M_those σ a0 (8 : Int32)) fun r52 σ51 => some (r52, σ51)) (ite2 (x1 = 6) (some ((σ.1 a0 12), σ)) (ite2 (x1 = 7) (some ((σ.1 a0 13), σ)) (ite2 (x1 = 8) (some ((σ.1 a0 15), σ)) (ite2 (x1 = 9) (some ((σ.1 a0 14), σ)) (ite2 (x1 = 10) (g_M_status_117 ns_F σ a0 (0 : Int32) (0 : Int32)) (cl2 (g_M_within σ x1 (12 : Int32) (16 : Int32)) fun r59 σ58 => ite2 (r59 = 0) (some ((-1 : Int32), σ58)) (drf (σ58.2.2 a0 21) fun b61 => grd (ns_kd b61 = 10) <| grd (ns_in (x1 - (10 : Int32)) (ns_ln b61)) <| some ((σ58.1 b61 (ns_ix (x1 - (10 : Int32)))), σ58)))))))))))))
theorem t_M_status_117 (G : ns_G) (l : Launch) {p : Program} {e : Env} {s : State} {m : MethodId} {args : Array Value} {below : List Frame} {meth : Method} {c : Code} (C : ns_Cx G p s m args meth c prog_11_method_85_code "NinthStepModel" 4) (hr : meth.sig.returnType = (some .int)) {r : Int32} {σ' : ns_St}  : ∀ (f : Nat) (σ : ns_St) (a0 : Nat) (x2 : Int32) (x3 : Int32) (hk_a0 : ns_kd a0 = 9), g_M_status_117 f σ a0 x2 x3 = some (r, σ') → VV G p l e { frames := 2, cells := 0, slots := 0, locals := 45 } s m args below meth c 4 0 0 (MQ below (ns_Qc G (some (.int r)) ns_N σ') args s 0 0 (ns_A G)) ns_N σ 117 [(0, .ref (G.1 + a0)), (2, .int x2), (3, .int x3)] [] := by
  intro f
  induction f with
  | zero =>
    intro σ a0 x2 x3 hk_a0 hf
    cases hf
  | succ f ih =>
    intro σ a0 x2 x3 hk_a0 hf
    rw [g_M_status_117] at hf
    refine v_iload_n C 3 2 rfl 118 rfl (by decide +kernel) ?_
    refine v_bipush C (8) (8) (by decide) 120 rfl (by decide +kernel) ?_
    refine v_icmp_ge C 142 123 rfl (by decide +kernel) (fun h32 => ?_) (fun h32 => ?_)
    · have hf := ite2_t hf h32
      refine v_iload_n C 2 1 rfl 143 rfl (by decide +kernel) ?_
      obtain ⟨rfl, rfl⟩ := ret_e hf
      exact v_iret C hr (by decide +kernel)
    · have hf := ite2_f hf h32
      refine v_aload_n C 0 0 rfl 124 rfl (by decide +kernel) ?_
      obtain ⟨b33, hb33, hf⟩ := drf_e hf
      obtain ⟨hk_b33, hf⟩ := grd_e hf
      refine v_getR C 9 0 hb33 rfl nin_9 (ns_kd_lt hk_a0 (by decide)) hk_a0 (by decide) (by decide) rfl 7 tw_975 rfl 127 rfl (by decide +kernel) ?_
      refine v_iload_n C 3 2 rfl 128 rfl (by decide +kernel) ?_
      obtain ⟨hi34, hf⟩ := grd_e hf
      refine v_iald C (ns_kd_lt hk_b33 (by decide)) hk_b33 hi34 129 rfl (by decide +kernel) ?_
      refine v_iconst C (-1) (-1) (by decide) 130 rfl (by decide +kernel) ?_
      refine v_icmp_eq C 136 133 rfl (by decide +kernel) (fun h35 => ?_) (fun h35 => ?_)
      · have hf := ite2_t hf h35
        obtain ⟨z36, hz36, hf⟩ := bnd_e hf
        refine v_iinc C 3 (1) 2 z36 rfl (by rw [hz36]; rfl) [(3, .int z36), (0, .ref (G.1 + a0)), (2, .int x2)] (by decide) rfl 139 rfl (by decide +kernel) ?_
        refine v_goto C 117 (by decide +kernel) ?_
        refine v_sub [1, 2, 0] rfl ?_
        exact ih σ a0 x2 z36 hk_a0 hf
      · have hf := ite2_f hf h35
        obtain ⟨z37, hz37, hf⟩ := bnd_e hf
        refine v_iinc C 2 (1) 1 z37 rfl (by rw [hz37]; rfl) [(2, .int z37), (0, .ref (G.1 + a0)), (3, .int x3)] (by decide) rfl 136 rfl (by decide +kernel) ?_
        obtain ⟨z38, hz38, hf⟩ := bnd_e hf
        refine v_iinc C 3 (1) 2 z38 rfl (by rw [hz38]; rfl) [(3, .int z38), (2, .int z37), (0, .ref (G.1 + a0))] (by decide) rfl 139 rfl (by decide +kernel) ?_
        refine v_goto C 117 (by decide +kernel) ?_
        refine v_sub [2, 1, 0] rfl ?_
        exact ih σ a0 z37 z38 hk_a0 hf
theorem c_M_status (G : ns_G) (l : Launch) (σ : ns_St) (a0 : Nat) (x1 : Int32) {r : Int32} {σ' : ns_St} (hf : g_M_status σ a0 x1 = some (r, σ')) : ns_ok G l ⟨"NinthStepModel", "status", "(I)I"⟩ prog_11_method_85_code 4 (some .int) 2 45 0 0 [.ref (G.1 + a0), .int x1] ns_N σ (some (.int r)) ns_N σ' := by
  refine v_open (by decide) (Nat.le_of_ble_eq_true rfl) rfl ?_
  intro p e s m below meth c C hr _
  have C : ns_Cx G p s m _ meth c prog_11_method_85_code "NinthStepModel" 4 := C
  unfold g_M_status at hf
  obtain ⟨hk_a0, hf⟩ := grd_e hf
  refine v_iconst C (0) (0) (by decide) 1 rfl (by decide +kernel) ?_
  refine v_istore_n C 2 [(2, .int (0 : Int32)), (0, .ref (G.1 + a0)), (1, .int x1)] (by decide) rfl 2 rfl (by decide +kernel) ?_
  refine v_iload_n C 1 2 rfl 3 rfl (by decide +kernel) ?_
  by_cases h39 : x1 = 0
  · have hf := ite2_t hf h39
    refine v_tswI C (141) (0) (10) #[(57), (62), (67), (73), (79), (85), (92), (97), (102), (107), (112)] 57 60 (0) h39 (by decide) (by decide) (57) (by decide) (by decide) (by decide +kernel) ?_
    refine v_aload_n C 0 1 rfl 61 rfl (by decide +kernel) ?_
    refine v_getI C 9 3 rfl nin_9 (ns_kd_lt hk_a0 (by decide)) hk_a0 (by decide) (by decide) rfl 59 tw_978 rfl 64 rfl (by decide +kernel) ?_
    obtain ⟨rfl, rfl⟩ := ret_e hf
    exact v_iret C hr (by decide +kernel)
  · have hf := ite2_f hf h39
    by_cases h40 : x1 = 1
    · have hf := ite2_t hf h40
      refine v_tswI C (141) (0) (10) #[(57), (62), (67), (73), (79), (85), (92), (97), (102), (107), (112)] 57 65 (1) h40 (by decide) (by decide) (62) (by decide) (by decide) (by decide +kernel) ?_
      refine v_aload_n C 0 1 rfl 66 rfl (by decide +kernel) ?_
      refine v_getI C 9 5 rfl nin_9 (ns_kd_lt hk_a0 (by decide)) hk_a0 (by decide) (by decide) rfl 66 tw_980 rfl 69 rfl (by decide +kernel) ?_
      obtain ⟨rfl, rfl⟩ := ret_e hf
      exact v_iret C hr (by decide +kernel)
    · have hf := ite2_f hf h40
      by_cases h41 : x1 = 2
      · have hf := ite2_t hf h41
        refine v_tswI C (141) (0) (10) #[(57), (62), (67), (73), (79), (85), (92), (97), (102), (107), (112)] 57 70 (2) h41 (by decide) (by decide) (67) (by decide) (by decide) (by decide +kernel) ?_
        refine v_aload_n C 0 1 rfl 71 rfl (by decide +kernel) ?_
        refine v_iconst C (1) (1) (by decide) 72 rfl (by decide +kernel) ?_
        obtain ⟨r43, σ42, hcr43, hf⟩ := cl2_e hf
        refine v_cV C 9 rfl (ns_kd_lt hk_a0 (by decide)) hk_a0 (by decide) [.int (1 : Int32)] [] (c_M_those G l σ a0 (1 : Int32) hcr43) 266 1 tw_1415 tw_1412 tw_1414 ts_107 tw_10 hd_M_those rfl ⟨(Nat.le_of_ble_eq_true rfl), (Nat.le_of_ble_eq_true rfl)⟩ ⟨(Nat.le_of_ble_eq_true rfl), (Nat.le_of_ble_eq_true rfl)⟩ (Nat.le_of_ble_eq_true rfl) rfl 75 rfl (by decide +kernel) [.int r43] rfl ?_
        obtain ⟨rfl, rfl⟩ := ret_e hf
        exact v_iret C hr (by decide +kernel)
      · have hf := ite2_f hf h41
        by_cases h44 : x1 = 3
        · have hf := ite2_t hf h44
          refine v_tswI C (141) (0) (10) #[(57), (62), (67), (73), (79), (85), (92), (97), (102), (107), (112)] 57 76 (3) h44 (by decide) (by decide) (73) (by decide) (by decide) (by decide +kernel) ?_
          refine v_aload_n C 0 1 rfl 77 rfl (by decide +kernel) ?_
          refine v_iconst C (2) (2) (by decide) 78 rfl (by decide +kernel) ?_
          obtain ⟨r46, σ45, hcr46, hf⟩ := cl2_e hf
          refine v_cV C 9 rfl (ns_kd_lt hk_a0 (by decide)) hk_a0 (by decide) [.int (2 : Int32)] [] (c_M_those G l σ a0 (2 : Int32) hcr46) 266 1 tw_1415 tw_1412 tw_1414 ts_107 tw_10 hd_M_those rfl ⟨(Nat.le_of_ble_eq_true rfl), (Nat.le_of_ble_eq_true rfl)⟩ ⟨(Nat.le_of_ble_eq_true rfl), (Nat.le_of_ble_eq_true rfl)⟩ (Nat.le_of_ble_eq_true rfl) rfl 81 rfl (by decide +kernel) [.int r46] rfl ?_
          obtain ⟨rfl, rfl⟩ := ret_e hf
          exact v_iret C hr (by decide +kernel)
        · have hf := ite2_f hf h44
          by_cases h47 : x1 = 4
          · have hf := ite2_t hf h47
            refine v_tswI C (141) (0) (10) #[(57), (62), (67), (73), (79), (85), (92), (97), (102), (107), (112)] 57 82 (4) h47 (by decide) (by decide) (79) (by decide) (by decide) (by decide +kernel) ?_
            refine v_aload_n C 0 1 rfl 83 rfl (by decide +kernel) ?_
            refine v_iconst C (4) (4) (by decide) 84 rfl (by decide +kernel) ?_
            obtain ⟨r49, σ48, hcr49, hf⟩ := cl2_e hf
            refine v_cV C 9 rfl (ns_kd_lt hk_a0 (by decide)) hk_a0 (by decide) [.int (4 : Int32)] [] (c_M_those G l σ a0 (4 : Int32) hcr49) 266 1 tw_1415 tw_1412 tw_1414 ts_107 tw_10 hd_M_those rfl ⟨(Nat.le_of_ble_eq_true rfl), (Nat.le_of_ble_eq_true rfl)⟩ ⟨(Nat.le_of_ble_eq_true rfl), (Nat.le_of_ble_eq_true rfl)⟩ (Nat.le_of_ble_eq_true rfl) rfl 87 rfl (by decide +kernel) [.int r49] rfl ?_
            obtain ⟨rfl, rfl⟩ := ret_e hf
            exact v_iret C hr (by decide +kernel)
          · have hf := ite2_f hf h47
            by_cases h50 : x1 = 5
            · have hf := ite2_t hf h50
              refine v_tswI C (141) (0) (10) #[(57), (62), (67), (73), (79), (85), (92), (97), (102), (107), (112)] 57 88 (5) h50 (by decide) (by decide) (85) (by decide) (by decide) (by decide +kernel) ?_
              refine v_aload_n C 0 1 rfl 89 rfl (by decide +kernel) ?_
              refine v_bipush C (8) (8) (by decide) 91 rfl (by decide +kernel) ?_
              obtain ⟨r52, σ51, hcr52, hf⟩ := cl2_e hf
              refine v_cV C 9 rfl (ns_kd_lt hk_a0 (by decide)) hk_a0 (by decide) [.int (8 : Int32)] [] (c_M_those G l σ a0 (8 : Int32) hcr52) 266 1 tw_1415 tw_1412 tw_1414 ts_107 tw_10 hd_M_those rfl ⟨(Nat.le_of_ble_eq_true rfl), (Nat.le_of_ble_eq_true rfl)⟩ ⟨(Nat.le_of_ble_eq_true rfl), (Nat.le_of_ble_eq_true rfl)⟩ (Nat.le_of_ble_eq_true rfl) rfl 94 rfl (by decide +kernel) [.int r52] rfl ?_
              obtain ⟨rfl, rfl⟩ := ret_e hf
              exact v_iret C hr (by decide +kernel)
            · have hf := ite2_f hf h50
              by_cases h53 : x1 = 6
              · have hf := ite2_t hf h53
                refine v_tswI C (141) (0) (10) #[(57), (62), (67), (73), (79), (85), (92), (97), (102), (107), (112)] 57 95 (6) h53 (by decide) (by decide) (92) (by decide) (by decide) (by decide +kernel) ?_
                refine v_aload_n C 0 1 rfl 96 rfl (by decide +kernel) ?_
                refine v_getI C 9 12 rfl nin_9 (ns_kd_lt hk_a0 (by decide)) hk_a0 (by decide) (by decide) rfl 119 tw_987 rfl 99 rfl (by decide +kernel) ?_
                obtain ⟨rfl, rfl⟩ := ret_e hf
                exact v_iret C hr (by decide +kernel)
              · have hf := ite2_f hf h53
                by_cases h54 : x1 = 7
                · have hf := ite2_t hf h54
                  refine v_tswI C (141) (0) (10) #[(57), (62), (67), (73), (79), (85), (92), (97), (102), (107), (112)] 57 100 (7) h54 (by decide) (by decide) (97) (by decide) (by decide) (by decide +kernel) ?_
                  refine v_aload_n C 0 1 rfl 101 rfl (by decide +kernel) ?_
                  refine v_getI C 9 13 rfl nin_9 (ns_kd_lt hk_a0 (by decide)) hk_a0 (by decide) (by decide) rfl 249 tw_988 rfl 104 rfl (by decide +kernel) ?_
                  obtain ⟨rfl, rfl⟩ := ret_e hf
                  exact v_iret C hr (by decide +kernel)
                · have hf := ite2_f hf h54
                  by_cases h55 : x1 = 8
                  · have hf := ite2_t hf h55
                    refine v_tswI C (141) (0) (10) #[(57), (62), (67), (73), (79), (85), (92), (97), (102), (107), (112)] 57 105 (8) h55 (by decide) (by decide) (102) (by decide) (by decide) (by decide +kernel) ?_
                    refine v_aload_n C 0 1 rfl 106 rfl (by decide +kernel) ?_
                    refine v_getI C 9 15 rfl nin_9 (ns_kd_lt hk_a0 (by decide)) hk_a0 (by decide) (by decide) rfl 122 tw_990 rfl 109 rfl (by decide +kernel) ?_
                    obtain ⟨rfl, rfl⟩ := ret_e hf
                    exact v_iret C hr (by decide +kernel)
                  · have hf := ite2_f hf h55
                    by_cases h56 : x1 = 9
                    · have hf := ite2_t hf h56
                      refine v_tswI C (141) (0) (10) #[(57), (62), (67), (73), (79), (85), (92), (97), (102), (107), (112)] 57 110 (9) h56 (by decide) (by decide) (107) (by decide) (by decide) (by decide +kernel) ?_
                      refine v_aload_n C 0 1 rfl 111 rfl (by decide +kernel) ?_
                      refine v_getI C 9 14 rfl nin_9 (ns_kd_lt hk_a0 (by decide)) hk_a0 (by decide) (by decide) rfl 63 tw_989 rfl 114 rfl (by decide +kernel) ?_
                      obtain ⟨rfl, rfl⟩ := ret_e hf
                      exact v_iret C hr (by decide +kernel)
                    · have hf := ite2_f hf h56
                      by_cases h57 : x1 = 10
                      · have hf := ite2_t hf h57
                        refine v_tswI C (141) (0) (10) #[(57), (62), (67), (73), (79), (85), (92), (97), (102), (107), (112)] 57 115 (10) h57 (by decide) (by decide) (112) (by decide) (by decide) (by decide +kernel) ?_
                        refine v_iconst C (0) (0) (by decide) 116 rfl (by decide +kernel) ?_
                        refine v_istore_n C 3 [(3, .int (0 : Int32)), (2, .int (0 : Int32)), (0, .ref (G.1 + a0)), (1, .int x1)] (by decide) rfl 117 rfl (by decide +kernel) ?_
                        refine v_sub [2, 1, 0] rfl ?_
                        exact t_M_status_117 G l C hr  ns_F σ a0 (0 : Int32) (0 : Int32) hk_a0 hf
                      · have hf := ite2_f hf h57
                        refine v_tswO C (141) (0) (10) #[(57), (62), (67), (73), (79), (85), (92), (97), (102), (107), (112)] 57 144 (ns_out x1 (0) (10) (fun k h1 h2 => by
                          have h3 : k = 0 ∨ k = 1 ∨ k = 2 ∨ k = 3 ∨ k = 4 ∨ k = 5 ∨ k = 6 ∨ k = 7 ∨ k = 8 ∨ k = 9 ∨ k = 10 := by omega
                          rcases h3 with rfl | rfl | rfl | rfl | rfl | rfl | rfl | rfl | rfl | rfl | rfl
                          · exact h39
                          · exact h40
                          · exact h41
                          · exact h44
                          · exact h47
                          · exact h50
                          · exact h53
                          · exact h54
                          · exact h55
                          · exact h56
                          · exact h57)) (by decide) (by decide +kernel) ?_
                        refine v_iload_n C 1 2 rfl 145 rfl (by decide +kernel) ?_
                        refine v_bipush C (12) (12) (by decide) 147 rfl (by decide +kernel) ?_
                        refine v_bipush C (16) (16) (by decide) 149 rfl (by decide +kernel) ?_
                        obtain ⟨r59, σ58, hcr59, hf⟩ := cl2_e hf
                        refine v_cS C [.int x1, .int (12 : Int32), .int (16 : Int32)] [] (c_M_within G l σ x1 (12 : Int32) (16 : Int32) hcr59) 69 3 tw_1075 tw_1073 tw_1074 tw_10 hd_M_within rfl ⟨(Nat.le_of_ble_eq_true rfl), (Nat.le_of_ble_eq_true rfl)⟩ ⟨(Nat.le_of_ble_eq_true rfl), (Nat.le_of_ble_eq_true rfl)⟩ (Nat.le_of_ble_eq_true rfl) rfl 152 rfl (by decide +kernel) [.int r59] rfl ?_
                        refine v_if_eq C 167 155 rfl (by decide +kernel) (fun h60 => ?_) (fun h60 => ?_)
                        · have hf := ite2_t hf h60
                          refine v_iconst C (-1) (-1) (by decide) 168 rfl (by decide +kernel) ?_
                          obtain ⟨rfl, rfl⟩ := ret_e hf
                          exact v_iret C hr (by decide +kernel)
                        · have hf := ite2_f hf h60
                          refine v_aload_n C 0 1 rfl 156 rfl (by decide +kernel) ?_
                          obtain ⟨b61, hb61, hf⟩ := drf_e hf
                          obtain ⟨hk_b61, hf⟩ := grd_e hf
                          refine v_getR C 9 21 hb61 rfl nin_9 (ns_kd_lt hk_a0 (by decide)) hk_a0 (by decide) (by decide) rfl 44 tw_996 rfl 159 rfl (by decide +kernel) ?_
                          refine v_iload_n C 1 2 rfl 160 rfl (by decide +kernel) ?_
                          refine v_bipush C (10) (10) (by decide) 162 rfl (by decide +kernel) ?_
                          refine v_isub C 163 rfl (by decide +kernel) ?_
                          obtain ⟨hi62, hf⟩ := grd_e hf
                          refine v_iald C (ns_kd_lt hk_b61 (by decide)) hk_b61 hi62 164 rfl (by decide +kernel) ?_
                          refine v_goto C 168 (by decide +kernel) ?_
                          obtain ⟨rfl, rfl⟩ := ret_e hf
                          exact v_iret C hr (by decide +kernel)
theorem hd_M_status : (⟨"NinthStepModel", "status", "(I)I"⟩ : MethodName).cls = "NinthStepModel" ∧ (⟨"NinthStepModel", "status", "(I)I"⟩ : MethodName).cls ≠ "java/lang/invoke/MethodHandle" ∧ (⟨"NinthStepModel", "status", "(I)I"⟩ : MethodName).cls ≠ "java/lang/invoke/VarHandle" ∧ (parseMethodDescriptor (⟨"NinthStepModel", "status", "(I)I"⟩ : MethodName).desc).map (fun d => d.parameters.length) = some 1 := by decide +kernel
