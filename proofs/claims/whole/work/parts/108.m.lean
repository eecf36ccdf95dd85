def g_N_best_25  : Nat → ns_St → Nat → Int32 → Int32 → Int32 → Option (Int32 × ns_St)
  | 0, _, _, _, _, _ => none
  | f + 1, σ, a0, x1, x2, x3 => ite2 (x1 < x3) (some (x2, σ)) (cl2 (g_N_fullestPlace σ a0) fun r20 σ19 => ite2 (r20 = (-1 : Int32)) (cl2 (g_N_refuse σ19 a0 (-5 : Int32)) fun r27 σ26 => some (r27, σ26)) (drf (σ19.2.2 a0 9) fun b22 => grd (ns_kd b22 = 10) <| grd (ns_in r20 (ns_ln b22)) <| bnd (ns_pI σ19 b22 (ns_ix r20) (0 : Int32)) fun σ24 => bnd (x3 + 1) fun z25 => (g_N_best_25 f) σ24 a0 x1 r20 z25))
def g_N_best (σ : ns_St) (a0 : Nat) (x1 : Int32) : Option (Int32 × ns_St) := grd (ns_kd a0 = 8) <| cl2 (g_N_isWithin σ x1 (0 : Int32) (9 : Int32)) fun r29 σ28 => ite2 (r29 = 0) (cl2 (g_N_refuse σ28 a0 (-2 : Int32)) fun r34 σ33 => some (r34, σ33)) (cl2 (g_N_countCrowds σ28 a0) fun r32 σ31 => g_N_best_25 ns_F σ31 a0 x1 (-1 : Int32) (0 : Int32))
theorem t_N_best_25 (G : ns_G) (l : Launch) {p : Program} {e : Env} {s : State} {m : MethodId} {args : Array Value} {below : List Frame} {meth : Method} {c : Code} (C : ns_Cx G p s m args meth c prog_1_method_32_code "NinthStep" 4) (hr : meth.sig.returnType = (some .int)) {r : Int32} {σ' : ns_St}  : ∀ (f : Nat) (σ : ns_St) (a0 : Nat) (x1 : Int32) (x2 : Int32) (x3 : Int32) (hk_a0 : ns_kd a0 = 8), g_N_best_25 f σ a0 x1 x2 x3 = some (r, σ') → VV G p l e { frames := 5, cells := 0, slots := 0, locals := 117 } s m args below meth c 4 0 0 (MQ below (ns_Qc G (some (.int r)) ns_N σ') args s 0 0 (ns_A G)) ns_N σ 25 [(0, .ref (G.1 + a0)), (1, .int x1), (2, .int x2), (3, .int x3)] [] := by
  intro f
  induction f with
  | zero =>
    intro σ a0 x1 x2 x3 hk_a0 hf
    cases hf
  | succ f ih =>
    intro σ a0 x1 x2 x3 hk_a0 hf
    rw [g_N_best_25] at hf
    refine v_iload_n C 3 3 rfl 26 rfl (by decide +kernel) ?_
    refine v_iload_n C 1 1 rfl 27 rfl (by decide +kernel) ?_
    refine v_icmp_gt C 60 30 rfl (by decide +kernel) (fun h18 => ?_) (fun h18 => ?_)
    · have hf := ite2_t hf h18
      refine v_iload_n C 2 2 rfl 61 rfl (by decide +kernel) ?_
      obtain ⟨rfl, rfl⟩ := ret_e hf
      exact v_iret C hr (by decide +kernel)
    · have hf := ite2_f hf h18
      refine v_aload_n C 0 0 rfl 31 rfl (by decide +kernel) ?_
      obtain ⟨r20, σ19, hcr20, hf⟩ := cl2_e hf
      refine v_cV C 8 rfl (ns_kd_lt hk_a0 (by decide)) hk_a0 (by decide) [] [] (c_N_fullestPlace G l σ a0 hcr20) 280 0 tw_796 tw_793 tw_795 ts_50 tw_1 hd_N_fullestPlace rfl ⟨(Nat.le_of_ble_eq_true rfl), (Nat.le_of_ble_eq_true rfl)⟩ ⟨(Nat.le_of_ble_eq_true rfl), (Nat.le_of_ble_eq_true rfl)⟩ (Nat.le_of_ble_eq_true rfl) rfl 34 rfl (by decide +kernel) [.int r20] rfl ?_
      refine v_istore_n C 2 [(2, .int r20), (0, .ref (G.1 + a0)), (1, .int x1), (3, .int x3)] (by decide) rfl 35 rfl (by decide +kernel) ?_
      refine v_iload_n C 2 0 rfl 36 rfl (by decide +kernel) ?_
      refine v_iconst C (-1) (-1) (by decide) 37 rfl (by decide +kernel) ?_
      refine v_icmp_ne C 47 40 rfl (by decide +kernel) (fun h21 => ?_) (fun h21 => ?_)
      · have hf := ite2_f hf h21
        refine v_aload_n C 0 1 rfl 48 rfl (by decide +kernel) ?_
        obtain ⟨b22, hb22, hf⟩ := drf_e hf
        obtain ⟨hk_b22, hf⟩ := grd_e hf
        refine v_getR C 8 9 hb22 rfl nin_8 (ns_kd_lt hk_a0 (by decide)) hk_a0 (by decide) (by decide) rfl 63 tw_296 rfl 51 rfl (by decide +kernel) ?_
        refine v_iload_n C 2 0 rfl 52 rfl (by decide +kernel) ?_
        refine v_iconst C (0) (0) (by decide) 53 rfl (by decide +kernel) ?_
        obtain ⟨hi23, hf⟩ := grd_e hf
        obtain ⟨σ24, hσ24, hf⟩ := bnd_e hf
        refine v_iast C hσ24 (ns_kd_lt hk_b22 (by decide)) hk_b22 hi23 54 rfl (by decide +kernel) ?_
        obtain ⟨z25, hz25, hf⟩ := bnd_e hf
        refine v_iinc C 3 (1) 3 z25 rfl (by rw [hz25]; rfl) [(3, .int z25), (2, .int r20), (0, .ref (G.1 + a0)), (1, .int x1)] (by decide) rfl 57 rfl (by decide +kernel) ?_
        refine v_goto C 25 (by decide +kernel) ?_
        refine v_sub [2, 3, 1, 0] rfl ?_
        exact ih σ24 a0 x1 r20 z25 hk_a0 hf
      · have hf := ite2_t hf h21
        refine v_aload_n C 0 1 rfl 41 rfl (by decide +kernel) ?_
        refine v_bipush C (-5) (-5) (by decide) 43 rfl (by decide +kernel) ?_
        obtain ⟨r27, σ26, hcr27, hf⟩ := cl2_e hf
        refine v_cV C 8 rfl (ns_kd_lt hk_a0 (by decide)) hk_a0 (by decide) [.int (-5 : Int32)] [] (c_N_refuse G l σ19 a0 (-5 : Int32) hcr27) 79 1 tw_338 tw_335 tw_337 ts_1 tw_1 hd_N_refuse rfl ⟨(Nat.le_of_ble_eq_true rfl), (Nat.le_of_ble_eq_true rfl)⟩ ⟨(Nat.le_of_ble_eq_true rfl), (Nat.le_of_ble_eq_true rfl)⟩ (Nat.le_of_ble_eq_true rfl) rfl 46 rfl (by decide +kernel) [.int r27] rfl ?_
        obtain ⟨rfl, rfl⟩ := ret_e hf
        exact v_iret C hr (by decide +kernel)
theorem c_N_best (G : ns_G) (l : Launch) (σ : ns_St) (a0 : Nat) (x1 : Int32) {r : Int32} {σ' : ns_St} (hf : g_N_best σ a0 x1 = some (r, σ')) : ns_ok G l ⟨"NinthStep", "best", "(I)I"⟩ prog_1_method_32_code 4 (some .int) 5 117 0 0 [.ref (G.1 + a0), .int x1] ns_N σ (some (.int r)) ns_N σ' := by
  refine v_open (by decide) (Nat.le_of_ble_eq_true rfl) rfl ?_
  intro p e s m below meth c C hr _
  have C : ns_Cx G p s m _ meth c prog_1_method_32_code "NinthStep" 4 := C
  unfold g_N_best at hf
  obtain ⟨hk_a0, hf⟩ := grd_e hf
  refine v_iload_n C 1 1 rfl 1 rfl (by decide +kernel) ?_
  refine v_iconst C (0) (0) (by decide) 2 rfl (by decide +kernel) ?_
  refine v_bipush C (9) (9) (by decide) 4 rfl (by decide +kernel) ?_
  obtain ⟨r29, σ28, hcr29, hf⟩ := cl2_e hf
  refine v_cS C [.int x1, .int (0 : Int32), .int (9 : Int32)] [] (c_N_isWithin G l σ x1 (0 : Int32) (9 : Int32) hcr29) 75 3 tw_334 tw_332 tw_333 tw_1 hd_N_isWithin rfl ⟨(Nat.le_of_ble_eq_true rfl), (Nat.le_of_ble_eq_true rfl)⟩ ⟨(Nat.le_of_ble_eq_true rfl), (Nat.le_of_ble_eq_true rfl)⟩ (Nat.le_of_ble_eq_true rfl) rfl 7 rfl (by decide +kernel) [.int r29] rfl ?_
  refine v_if_ne C 17 10 rfl (by decide +kernel) (fun h30 => ?_) (fun h30 => ?_)
  · have hf := ite2_f hf h30
    refine v_aload_n C 0 0 rfl 18 rfl (by decide +kernel) ?_
    obtain ⟨r32, σ31, hcr32, hf⟩ := cl2_e hf
    refine v_cV C 8 rfl (ns_kd_lt hk_a0 (by decide)) hk_a0 (by decide) [] [] (c_N_countCrowds G l σ28 a0 hcr32) 277 0 tw_788 tw_785 tw_787 ts_49 tw_1 hd_N_countCrowds rfl ⟨(Nat.le_of_ble_eq_true rfl), (Nat.le_of_ble_eq_true rfl)⟩ ⟨(Nat.le_of_ble_eq_true rfl), (Nat.le_of_ble_eq_true rfl)⟩ (Nat.le_of_ble_eq_true rfl) rfl 21 rfl (by decide +kernel) [] rfl ?_
    refine v_iconst C (-1) (-1) (by decide) 22 rfl (by decide +kernel) ?_
    refine v_istore_n C 2 [(2, .int (-1 : Int32)), (0, .ref (G.1 + a0)), (1, .int x1)] (by decide) rfl 23 rfl (by decide +kernel) ?_
    refine v_iconst C (0) (0) (by decide) 24 rfl (by decide +kernel) ?_
    refine v_istore_n C 3 [(3, .int (0 : Int32)), (2, .int (-1 : Int32)), (0, .ref (G.1 + a0)), (1, .int x1)] (by decide) rfl 25 rfl (by decide +kernel) ?_
    refine v_sub [2, 3, 1, 0] rfl ?_
    exact t_N_best_25 G l C hr  ns_F σ31 a0 x1 (-1 : Int32) (0 : Int32) hk_a0 hf
  · have hf := ite2_t hf h30
    refine v_aload_n C 0 0 rfl 11 rfl (by decide +kernel) ?_
    refine v_bipush C (-2) (-2) (by decide) 13 rfl (by decide +kernel) ?_
    obtain ⟨r34, σ33, hcr34, hf⟩ := cl2_e hf
    refine v_cV C 8 rfl (ns_kd_lt hk_a0 (by decide)) hk_a0 (by decide) [.int (-2 : Int32)] [] (c_N_refuse G l σ28 a0 (-2 : Int32) hcr34) 79 1 tw_338 tw_335 tw_337 ts_1 tw_1 hd_N_refuse rfl ⟨(Nat.le_of_ble_eq_true rfl), (Nat.le_of_ble_eq_true rfl)⟩ ⟨(Nat.le_of_ble_eq_true rfl), (Nat.le_of_ble_eq_true rfl)⟩ (Nat.le_of_ble_eq_true rfl) rfl 16 rfl (by decide +kernel) [.int r34] rfl ?_
    obtain ⟨rfl, rfl⟩ := ret_e hf
    exact v_iret C hr (by decide +kernel)
theorem hd_N_best : (⟨"NinthStep", "best", "(I)I"⟩ : MethodName).cls = "NinthStep" ∧ (⟨"NinthStep", "best", "(I)I"⟩ : MethodName).cls ≠ "java/lang/invoke/MethodHandle" ∧ (⟨"NinthStep", "best", "(I)I"⟩ : MethodName).cls ≠ "java/lang/invoke/VarHandle" ∧ (parseMethodDescriptor (⟨"NinthStep", "best", "(I)I"⟩ : MethodName).desc).map (fun d => d.parameters.length) = some 1 := by decide +kernel
def g_StonePlan_fallsNext (σ : ns_St) (a0 : Nat) (a1 : Nat) (x2 : Int32) : Option (Int32 × ns_St) := grd (ns_kd a0 = 4) <| grd (ns_kd a1 = 2) <| drf (σ.2.2 a0 7) fun b9 => grd (ns_kd b9 = 1) <| cl2 (g_Mule_makeStep σ a1 b9 x2) fun r11 σ10 => ite2 (r11 = 0) (some ((0 : Int32), σ10)) (drf (σ10.2.2 a0 7) fun b13 => grd (ns_kd b13 = 1) <| cl2 (g_N_isIn σ10 (σ10.2.1 b13 3) (σ10.1 a1 2)) fun r15 σ14 => ite2 (r15 = 0) (some ((0 : Int32), σ14)) (some ((1 : Int32), σ14)))
theorem c_StonePlan_fallsNext (G : ns_G) (l : Launch) (σ : ns_St) (a0 : Nat) (a1 : Nat) (x2 : Int32) {r : Int32} {σ' : ns_St} (hf : g_StonePlan_fallsNext σ a0 a1 x2 = some (r, σ')) : ns_ok G l ⟨"NinthStep$StonePlan", "fallsNext", "(LNinthStep$Mule;I)Z"⟩ prog_6_method_12_code 3 (some .boolean) 2 45 0 0 [.ref (G.1 + a0), .ref (G.1 + a1), .int x2] ns_N σ (some (.int r)) ns_N σ' := by
  refine v_open (by decide) (Nat.le_of_ble_eq_true rfl) rfl ?_
  intro p e s m below meth c C hr _
  have C : ns_Cx G p s m _ meth c prog_6_method_12_code "NinthStep$StonePlan" 3 := C
  unfold g_StonePlan_fallsNext at hf
  obtain ⟨hk_a0, hf⟩ := grd_e hf
  obtain ⟨hk_a1, hf⟩ := grd_e hf
  refine v_aload_n C 1 1 rfl 1 rfl (by decide +kernel) ?_
  refine v_aload_n C 0 0 rfl 2 rfl (by decide +kernel) ?_
  obtain ⟨b9, hb9, hf⟩ := drf_e hf
  obtain ⟨hk_b9, hf⟩ := grd_e hf
  refine v_getR C 4 7 hb9 rfl nin_4 (ns_kd_lt hk_a0 (by decide)) hk_a0 (by decide) (by decide) rfl 44 tw_227 rfl 5 rfl (by decide +kernel) ?_
  refine v_iload_n C 2 2 rfl 6 rfl (by decide +kernel) ?_
  obtain ⟨r11, σ10, hcr11, hf⟩ := cl2_e hf
  refine v_cVN C 2 rfl (ns_kd_lt hk_a1 (by decide)) hk_a1 (by decide) [.ref (G.1 + b9), .int x2] [] (c_Mule_makeStep G l σ a1 b9 x2 hcr11) 144 2 tw_656 tw_814 tw_655 ts_32 tw_4 hd_Mule_makeStep rfl ⟨(Nat.le_of_ble_eq_true rfl), (Nat.le_of_ble_eq_true rfl)⟩ ⟨(Nat.le_of_ble_eq_true rfl), (Nat.le_of_ble_eq_true rfl)⟩ (Nat.le_of_ble_eq_true rfl) rfl 9 rfl (by decide +kernel) [.int r11] rfl ?_
  refine v_if_eq C 33 12 rfl (by decide +kernel) (fun h12 => ?_) (fun h12 => ?_)
  · have hf := ite2_t hf h12
    refine v_iconst C (0) (0) (by decide) 34 rfl (by decide +kernel) ?_
    obtain ⟨rfl, rfl⟩ := ret_e hf
    exact v_zret C hr rfl (by decide +kernel)
  · have hf := ite2_f hf h12
    refine v_aload_n C 0 0 rfl 13 rfl (by decide +kernel) ?_
    obtain ⟨b13, hb13, hf⟩ := drf_e hf
    obtain ⟨hk_b13, hf⟩ := grd_e hf
    refine v_getR C 4 7 hb13 rfl nin_4 (ns_kd_lt hk_a0 (by decide)) hk_a0 (by decide) (by decide) rfl 44 tw_227 rfl 16 rfl (by decide +kernel) ?_
    refine v_getJN C 1 3 rfl nin_1 (ns_kd_lt hk_b13 (by decide)) hk_b13 (by decide) (by decide) rfl 148 tw_59 rfl 19 rfl (by decide +kernel) ?_
    refine v_aload_n C 1 1 rfl 20 rfl (by decide +kernel) ?_
    refine v_getIN C 2 2 rfl nin_2 (ns_kd_lt hk_a1 (by decide)) hk_a1 (by decide) (by decide) rfl 107 tw_90 rfl 23 rfl (by decide +kernel) ?_
    obtain ⟨r15, σ14, hcr15, hf⟩ := cl2_e hf
    refine v_cSN C [.long (σ10.2.1 b13 3), .int (σ10.1 a1 2)] [] (c_N_isIn G l σ10 (σ10.2.1 b13 3) (σ10.1 a1 2) hcr15) 72 2 tw_455 tw_815 tw_454 tw_1 hd_N_isIn rfl ⟨(Nat.le_of_ble_eq_true rfl), (Nat.le_of_ble_eq_true rfl)⟩ ⟨(Nat.le_of_ble_eq_true rfl), (Nat.le_of_ble_eq_true rfl)⟩ (Nat.le_of_ble_eq_true rfl) rfl 26 rfl (by decide +kernel) [.int r15] rfl ?_
    refine v_if_eq C 33 29 rfl (by decide +kernel) (fun h16 => ?_) (fun h16 => ?_)
    · have hf := ite2_t hf h16
      refine v_iconst C (0) (0) (by decide) 34 rfl (by decide +kernel) ?_
      obtain ⟨rfl, rfl⟩ := ret_e hf
      exact v_zret C hr rfl (by decide +kernel)
    · have hf := ite2_f hf h16
      refine v_iconst C (1) (1) (by decide) 30 rfl (by decide +kernel) ?_
      refine v_goto C 34 (by decide +kernel) ?_
      obtain ⟨rfl, rfl⟩ := ret_e hf
      exact v_zret C hr rfl (by decide +kernel)
theorem hd_StonePlan_fallsNext : (⟨"NinthStep$StonePlan", "fallsNext", "(LNinthStep$Mule;I)Z"⟩ : MethodName).cls = "NinthStep$StonePlan" ∧ (⟨"NinthStep$StonePlan", "fallsNext", "(LNinthStep$Mule;I)Z"⟩ : MethodName).cls ≠ "java/lang/invoke/MethodHandle" ∧ (⟨"NinthStep$StonePlan", "fallsNext", "(LNinthStep$Mule;I)Z"⟩ : MethodName).cls ≠ "java/lang/invoke/VarHandle" ∧ (parseMethodDescriptor (⟨"NinthStep$StonePlan", "fallsNext", "(LNinthStep$Mule;I)Z"⟩ : MethodName).desc).map (fun d => d.parameters.length) = some 2 := by decide +kernel
def g_StonePlan_fallsAsItIs_13  : Nat → ns_St → Nat → Int32 → Option (Int32 × ns_St)
  | 0, _, _, _ => none
  | f + 1, σ, a0, x2 => drf (σ.2.2 a0 7) fun b12 => grd (ns_kd b12 = 1) <| ite2 ((σ.1 b12 0) ≤ x2) (some ((0 : Int32), σ)) (drf (σ.2.2 a0 3) fun b14 => grd (ns_kd b14 = 2) <| cl2 (g_StonePlan_fallsNext σ a0 b14 (0 : Int32)) fun r16 σ15 => ite2 (r16 = 0) (bnd (x2 + 1) fun z18 => (g_StonePlan_fallsAsItIs_13 f) σ15 a0 z18) (some ((1 : Int32), σ15)))
def g_StonePlan_fallsAsItIs (σ : ns_St) (a0 : Nat) (a1 : Nat) : Option (Int32 × ns_St) := grd (ns_kd a0 = 4) <| grd (ns_kd a1 = 2) <| drf (σ.2.2 a0 3) fun b19 => grd (ns_kd b19 = 2) <| cl2 (g_Mule_takeFrom σ b19 a1) fun r21 σ20 => bnd (σ20.1 a1 2) fun z22 => g_StonePlan_fallsAsItIs_13 ns_F σ20 a0 z22
theorem t_StonePlan_fallsAsItIs_13 (G : ns_G) (l : Launch) {p : Program} {e : Env} {s : State} {m : MethodId} {args : Array Value} {below : List Frame} {meth : Method} {c : Code} (C : ns_Cx G p s m args meth c prog_6_method_6_code "NinthStep$StonePlan" 3) (hr : meth.sig.returnType = (some .boolean)) {r : Int32} {σ' : ns_St}  : ∀ (f : Nat) (σ : ns_St) (a0 : Nat) (x2 : Int32) (hk_a0 : ns_kd a0 = 4), g_StonePlan_fallsAsItIs_13 f σ a0 x2 = some (r, σ') → VV G p l e { frames := 3, cells := 0, slots := 0, locals := 67 } s m args below meth c 3 0 0 (MQ below (ns_Qc G (some (.int r)) ns_N σ') args s 0 0 (ns_A G)) ns_N σ 13 [(0, .ref (G.1 + a0)), (2, .int x2)] [] := by
  intro f
  induction f with
  | zero =>
    intro σ a0 x2 hk_a0 hf
    cases hf
  | succ f ih =>
    intro σ a0 x2 hk_a0 hf
    rw [g_StonePlan_fallsAsItIs_13] at hf
    refine v_iload_n C 2 1 rfl 14 rfl (by decide +kernel) ?_
    refine v_aload_n C 0 0 rfl 15 rfl (by decide +kernel) ?_
    obtain ⟨b12, hb12, hf⟩ := drf_e hf
    obtain ⟨hk_b12, hf⟩ := grd_e hf
    refine v_getR C 4 7 hb12 rfl nin_4 (ns_kd_lt hk_a0 (by decide)) hk_a0 (by decide) (by decide) rfl 44 tw_227 rfl 18 rfl (by decide +kernel) ?_
    refine v_getIN C 1 0 rfl nin_1 (ns_kd_lt hk_b12 (by decide)) hk_b12 (by decide) (by decide) rfl 87 tw_42 rfl 21 rfl (by decide +kernel) ?_
    refine v_icmp_ge C 44 24 rfl (by decide +kernel) (fun h13 => ?_) (fun h13 => ?_)
    · have hf := ite2_t hf h13
      refine v_iconst C (0) (0) (by decide) 45 rfl (by decide +kernel) ?_
      obtain ⟨rfl, rfl⟩ := ret_e hf
      exact v_zret C hr rfl (by decide +kernel)
    · have hf := ite2_f hf h13
      refine v_aload_n C 0 0 rfl 25 rfl (by decide +kernel) ?_
      refine v_aload_n C 0 0 rfl 26 rfl (by decide +kernel) ?_
      obtain ⟨b14, hb14, hf⟩ := drf_e hf
      obtain ⟨hk_b14, hf⟩ := grd_e hf
      refine v_getR C 4 3 hb14 rfl nin_4 (ns_kd_lt hk_a0 (by decide)) hk_a0 (by decide) (by decide) rfl 25 tw_223 rfl 29 rfl (by decide +kernel) ?_
      refine v_iconst C (0) (0) (by decide) 30 rfl (by decide +kernel) ?_
      obtain ⟨r16, σ15, hcr16, hf⟩ := cl2_e hf
      refine v_cV C 4 rfl (ns_kd_lt hk_a0 (by decide)) hk_a0 (by decide) [.ref (G.1 + b14), .int (0 : Int32)] [] (c_StonePlan_fallsNext G l σ a0 b14 (0 : Int32) hcr16) 110 2 tw_813 tw_810 tw_812 ts_53 tw_7 hd_StonePlan_fallsNext rfl ⟨(Nat.le_of_ble_eq_true rfl), (Nat.le_of_ble_eq_true rfl)⟩ ⟨(Nat.le_of_ble_eq_true rfl), (Nat.le_of_ble_eq_true rfl)⟩ (Nat.le_of_ble_eq_true rfl) rfl 33 rfl (by decide +kernel) [.int r16] rfl ?_
      refine v_if_eq C 38 36 rfl (by decide +kernel) (fun h17 => ?_) (fun h17 => ?_)
      · have hf := ite2_t hf h17
        obtain ⟨z18, hz18, hf⟩ := bnd_e hf
        refine v_iinc C 2 (1) 1 z18 rfl (by rw [hz18]; rfl) [(2, .int z18), (0, .ref (G.1 + a0))] (by decide) rfl 41 rfl (by decide +kernel) ?_
        refine v_goto C 13 (by decide +kernel) ?_
        refine v_sub [1, 0] rfl ?_
        exact ih σ15 a0 z18 hk_a0 hf
      · have hf := ite2_f hf h17
        refine v_iconst C (1) (1) (by decide) 37 rfl (by decide +kernel) ?_
        obtain ⟨rfl, rfl⟩ := ret_e hf
        exact v_zret C hr rfl (by decide +kernel)
theorem c_StonePlan_fallsAsItIs (G : ns_G) (l : Launch) (σ : ns_St) (a0 : Nat) (a1 : Nat) {r : Int32} {σ' : ns_St} (hf : g_StonePlan_fallsAsItIs σ a0 a1 = some (r, σ')) : ns_ok G l ⟨"NinthStep$StonePlan", "fallsAsItIs", "(LNinthStep$Mule;)Z"⟩ prog_6_method_6_code 3 (some .boolean) 3 67 0 0 [.ref (G.1 + a0), .ref (G.1 + a1)] ns_N σ (some (.int r)) ns_N σ' := by
  refine v_open (by decide) (Nat.le_of_ble_eq_true rfl) rfl ?_
  intro p e s m below meth c C hr _
  have C : ns_Cx G p s m _ meth c prog_6_method_6_code "NinthStep$StonePlan" 3 := C
  unfold g_StonePlan_fallsAsItIs at hf
  obtain ⟨hk_a0, hf⟩ := grd_e hf
  obtain ⟨hk_a1, hf⟩ := grd_e hf
  refine v_aload_n C 0 0 rfl 1 rfl (by decide +kernel) ?_
  obtain ⟨b19, hb19, hf⟩ := drf_e hf
  obtain ⟨hk_b19, hf⟩ := grd_e hf
  refine v_getR C 4 3 hb19 rfl nin_4 (ns_kd_lt hk_a0 (by decide)) hk_a0 (by decide) (by decide) rfl 25 tw_223 rfl 4 rfl (by decide +kernel) ?_
  refine v_aload_n C 1 1 rfl 5 rfl (by decide +kernel) ?_
  obtain ⟨r21, σ20, hcr21, hf⟩ := cl2_e hf
  refine v_cVN C 2 rfl (ns_kd_lt hk_b19 (by decide)) hk_b19 (by decide) [.ref (G.1 + a1)] [] (c_Mule_takeFrom G l σ b19 a1 hcr21) 103 1 tw_522 tw_809 tw_521 ts_19 tw_4 hd_Mule_takeFrom rfl ⟨(Nat.le_of_ble_eq_true rfl), (Nat.le_of_ble_eq_true rfl)⟩ ⟨(Nat.le_of_ble_eq_true rfl), (Nat.le_of_ble_eq_true rfl)⟩ (Nat.le_of_ble_eq_true rfl) rfl 8 rfl (by decide +kernel) [] rfl ?_
  refine v_aload_n C 1 1 rfl 9 rfl (by decide +kernel) ?_
  refine v_getIN C 2 2 rfl nin_2 (ns_kd_lt hk_a1 (by decide)) hk_a1 (by decide) (by decide) rfl 107 tw_90 rfl 12 rfl (by decide +kernel) ?_
  obtain ⟨z22, hz22, hf⟩ := bnd_e hf
  refine v_nmI hz22 ?_
  refine v_istore_n C 2 [(2, .int z22), (0, .ref (G.1 + a0)), (1, .ref (G.1 + a1))] (by decide) rfl 13 rfl (by decide +kernel) ?_
  refine v_sub [1, 0] rfl ?_
  exact t_StonePlan_fallsAsItIs_13 G l C hr  ns_F σ20 a0 z22 hk_a0 hf
theorem hd_StonePlan_fallsAsItIs : (⟨"NinthStep$StonePlan", "fallsAsItIs", "(LNinthStep$Mule;)Z"⟩ : MethodName).cls = "NinthStep$StonePlan" ∧ (⟨"NinthStep$StonePlan", "fallsAsItIs", "(LNinthStep$Mule;)Z"⟩ : MethodName).cls ≠ "java/lang/invoke/MethodHandle" ∧ (⟨"NinthStep$StonePlan", "fallsAsItIs", "(LNinthStep$Mule;)Z"⟩ : MethodName).cls ≠ "java/lang/invoke/VarHandle" ∧ (parseMethodDescriptor (⟨"NinthStep$StonePlan", "fallsAsItIs", "(LNinthStep$Mule;)Z"⟩ : MethodName).desc).map (fun d => d.parameters.length) = some 1 := by decide +kernel
def g_StonePlan_isAnyNeeded_10  : Nat → ns_St → Nat → Nat → Int32 → Option (Int32 × ns_St)
  | 0, _, _, _, _ => none
  | f + 1, σ, a0, a1, x2 => ite2 ((σ.1 a1 2) ≤ x2) (some ((0 : Int32), σ)) (drf (σ.2.2 a1 1) fun b12 => grd (ns_kd b12 = 12) <| grd (ns_in x2 (ns_ln b12)) <| drf (σ.2.2 b12 (ns_ix x2)) fun b14 => grd (ns_kd b14 = 2) <| cl2 (g_StonePlan_fallsAsItIs σ a0 b14) fun r16 σ15 => ite2 (r16 = 0) (bnd (x2 + 1) fun z18 => (g_StonePlan_isAnyNeeded_10 f) σ15 a0 a1 z18) (some ((1 : Int32), σ15)))
def g_StonePlan_isAnyNeeded (σ : ns_St) (a0 : Nat) (a1 : Nat) : Option (Int32 × ns_St) := grd (ns_kd a0 = 4) <| grd (ns_kd a1 = 7) <| drf (σ.2.2 a1 0) fun b19 => grd (ns_kd b19 = 1) <| bnd (ns_pR σ a0 7 (some b19)) fun σ20 => g_StonePlan_isAnyNeeded_10 ns_F σ20 a0 a1 (0 : Int32)
theorem t_StonePlan_isAnyNeeded_10 (G : ns_G) (l : Launch) {p : Program} {e : Env} {s : State} {m : MethodId} {args : Array Value} {below : List Frame} {meth : Method} {c : Code} (C : ns_Cx G p s m args meth c prog_6_method_2_code "NinthStep$StonePlan" 3) (hr : meth.sig.returnType = (some .boolean)) {r : Int32} {σ' : ns_St}  : ∀ (f : Nat) (σ : ns_St) (a0 : Nat) (a1 : Nat) (x2 : Int32) (hk_a0 : ns_kd a0 = 4) (hk_a1 : ns_kd a1 = 7), g_StonePlan_isAnyNeeded_10 f σ a0 a1 x2 = some (r, σ') → VV G p l e { frames := 4, cells := 0, slots := 0, locals := 89 } s m args below meth c 3 0 0 (MQ below (ns_Qc G (some (.int r)) ns_N σ') args s 0 0 (ns_A G)) ns_N σ 10 [(0, .ref (G.1 + a0)), (1, .ref (G.1 + a1)), (2, .int x2)] [] := by
  intro f
  induction f with
  | zero =>
    intro σ a0 a1 x2 hk_a0 hk_a1 hf
    cases hf
  | succ f ih =>
    intro σ a0 a1 x2 hk_a0 hk_a1 hf
    rw [g_StonePlan_isAnyNeeded_10] at hf
    refine v_iload_n C 2 2 rfl 11 rfl (by decide +kernel) ?_
    refine v_aload_n C 1 1 rfl 12 rfl (by decide +kernel) ?_
    refine v_getIN C 7 2 rfl nin_7 (ns_kd_lt hk_a1 (by decide)) hk_a1 (by decide) (by decide) rfl 45 tw_132 rfl 15 rfl (by decide +kernel) ?_
    refine v_icmp_ge C 39 18 rfl (by decide +kernel) (fun h11 => ?_) (fun h11 => ?_)
    · have hf := ite2_t hf h11
      refine v_iconst C (0) (0) (by decide) 40 rfl (by decide +kernel) ?_
      obtain ⟨rfl, rfl⟩ := ret_e hf
      exact v_zret C hr rfl (by decide +kernel)
    · have hf := ite2_f hf h11
      refine v_aload_n C 0 0 rfl 19 rfl (by decide +kernel) ?_
      refine v_aload_n C 1 1 rfl 20 rfl (by decide +kernel) ?_
      obtain ⟨b12, hb12, hf⟩ := drf_e hf
      obtain ⟨hk_b12, hf⟩ := grd_e hf
      refine v_getRN C 7 1 hb12 rfl nin_7 (ns_kd_lt hk_a1 (by decide)) hk_a1 (by decide) (by decide) rfl 49 tw_130 rfl 23 rfl (by decide +kernel) ?_
      refine v_iload_n C 2 2 rfl 24 rfl (by decide +kernel) ?_
      obtain ⟨hi13, hf⟩ := grd_e hf
      obtain ⟨b14, hb14, hf⟩ := drf_e hf
      obtain ⟨hk_b14, hf⟩ := grd_e hf
      refine v_aald C 12 (by decide) (ns_kd_lt hk_b12 (by decide)) hk_b12 hi13 hb14 25 rfl (by decide +kernel) ?_
      obtain ⟨r16, σ15, hcr16, hf⟩ := cl2_e hf
      refine v_cV C 4 rfl (ns_kd_lt hk_a0 (by decide)) hk_a0 (by decide) [.ref (G.1 + b14)] [] (c_StonePlan_fallsAsItIs G l σ a0 b14 hcr16) 53 1 tw_808 tw_805 tw_807 ts_52 tw_7 hd_StonePlan_fallsAsItIs rfl ⟨(Nat.le_of_ble_eq_true rfl), (Nat.le_of_ble_eq_true rfl)⟩ ⟨(Nat.le_of_ble_eq_true rfl), (Nat.le_of_ble_eq_true rfl)⟩ (Nat.le_of_ble_eq_true rfl) rfl 28 rfl (by decide +kernel) [.int r16] rfl ?_
      refine v_if_eq C 33 31 rfl (by decide +kernel) (fun h17 => ?_) (fun h17 => ?_)
      · have hf := ite2_t hf h17
        obtain ⟨z18, hz18, hf⟩ := bnd_e hf
        refine v_iinc C 2 (1) 2 z18 rfl (by rw [hz18]; rfl) [(2, .int z18), (0, .ref (G.1 + a0)), (1, .ref (G.1 + a1))] (by decide) rfl 36 rfl (by decide +kernel) ?_
        refine v_goto C 10 (by decide +kernel) ?_
        refine v_sub [1, 2, 0] rfl ?_
        exact ih σ15 a0 a1 z18 hk_a0 hk_a1 hf
      · have hf := ite2_f hf h17
        refine v_iconst C (1) (1) (by decide) 32 rfl (by decide +kernel) ?_
        obtain ⟨rfl, rfl⟩ := ret_e hf
        exact v_zret C hr rfl (by decide +kernel)
theorem c_StonePlan_isAnyNeeded (G : ns_G) (l : Launch) (σ : ns_St) (a0 : Nat) (a1 : Nat) {r : Int32} {σ' : ns_St} (hf : g_StonePlan_isAnyNeeded σ a0 a1 = some (r, σ')) : ns_ok G l ⟨"NinthStep$StonePlan", "isAnyNeeded", "(LNinthStep$World;)Z"⟩ prog_6_method_2_code 3 (some .boolean) 4 89 0 0 [.ref (G.1 + a0), .ref (G.1 + a1)] ns_N σ (some (.int r)) ns_N σ' := by
  refine v_open (by decide) (Nat.le_of_ble_eq_true rfl) rfl ?_
  intro p e s m below meth c C hr _
  have C : ns_Cx G p s m _ meth c prog_6_method_2_code "NinthStep$StonePlan" 3 := C
  unfold g_StonePlan_isAnyNeeded at hf
  obtain ⟨hk_a0, hf⟩ := grd_e hf
  obtain ⟨hk_a1, hf⟩ := grd_e hf
  refine v_aload_n C 0 0 rfl 1 rfl (by decide +kernel) ?_
  refine v_aload_n C 1 1 rfl 2 rfl (by decide +kernel) ?_
  obtain ⟨b19, hb19, hf⟩ := drf_e hf
  obtain ⟨hk_b19, hf⟩ := grd_e hf
  refine v_getRN C 7 0 hb19 rfl nin_7 (ns_kd_lt hk_a1 (by decide)) hk_a1 (by decide) (by decide) rfl 38 tw_126 rfl 5 rfl (by decide +kernel) ?_
  obtain ⟨σ20, hσ20, hf⟩ := bnd_e hf
  refine v_putR C 4 7 hσ20 rfl nin_4 ny_4 nty_4 nnm_4 (ns_kd_lt hk_a0 (by decide)) hk_a0 (by decide) (by decide) rfl rfl rfl rfl 44 tw_227 rfl 8 rfl (by decide +kernel) ?_
  refine v_iconst C (0) (0) (by decide) 9 rfl (by decide +kernel) ?_
  refine v_istore_n C 2 [(2, .int (0 : Int32)), (0, .ref (G.1 + a0)), (1, .ref (G.1 + a1))] (by decide) rfl 10 rfl (by decide +kernel) ?_
  refine v_sub [1, 2, 0] rfl ?_
  exact t_StonePlan_isAnyNeeded_10 G l C hr  ns_F σ20 a0 a1 (0 : Int32) hk_a0 hk_a1 hf
theorem hd_StonePlan_isAnyNeeded : (⟨"NinthStep$StonePlan", "isAnyNeeded", "(LNinthStep$World;)Z"⟩ : MethodName).cls = "NinthStep$StonePlan" ∧ (⟨"NinthStep$StonePlan", "isAnyNeeded", "(LNinthStep$World;)Z"⟩ : MethodName).cls ≠ "java/lang/invoke/MethodHandle" ∧ (⟨"NinthStep$StonePlan", "isAnyNeeded", "(LNinthStep$World;)Z"⟩ : MethodName).cls ≠ "java/lang/invoke/VarHandle" ∧ (parseMethodDescriptor (⟨"NinthStep$StonePlan", "isAnyNeeded", "(LNinthStep$World;)Z"⟩ : MethodName).desc).map (fun d => d.parameters.length) = some 1 := by decide +kernel
def g_StonePlan_freePlaces (σ : ns_St) (a0 : Nat) : Option (Int64 × ns_St) := grd (ns_kd a0 = 4) <| drf (σ.2.2 a0 7) fun b5 => grd (ns_kd b5 = 1) <| cl2 (g_N_bit σ ((σ.1 b5 0) + (1 : Int32))) fun r7 σ6 => drf (σ6.2.2 a0 7) fun b8 => grd (ns_kd b8 = 1) <| some (((r7 - (2 : Int64)) &&& ((σ6.2.1 b8 1) ^^^ (-1 : Int64))), σ6)
theorem c_StonePlan_freePlaces (G : ns_G) (l : Launch) (σ : ns_St) (a0 : Nat) {r : Int64} {σ' : ns_St} (hf : g_StonePlan_freePlaces σ a0 = some (r, σ')) : ns_ok G l ⟨"NinthStep$StonePlan", "freePlaces", "()J"⟩ prog_6_method_5_code 1 (some .long) 1 20 0 0 [.ref (G.1 + a0)] ns_N σ (some (.long r)) ns_N σ' := by
  refine v_open (by decide) (Nat.le_of_ble_eq_true rfl) rfl ?_
  intro p e s m below meth c C hr _
  have C : ns_Cx G p s m _ meth c prog_6_method_5_code "NinthStep$StonePlan" 1 := C
  unfold g_StonePlan_freePlaces at hf
  obtain ⟨hk_a0, hf⟩ := grd_e hf
  refine v_aload_n C 0 0 rfl 1 rfl (by decide +kernel) ?_
  obtain ⟨b5, hb5, hf⟩ := drf_e hf
  obtain ⟨hk_b5, hf⟩ := grd_e hf
  refine v_getR C 4 7 hb5 rfl nin_4 (ns_kd_lt hk_a0 (by decide)) hk_a0 (by decide) (by decide) rfl 44 tw_227 rfl 4 rfl (by decide +kernel) ?_
  refine v_getIN C 1 0 rfl nin_1 (ns_kd_lt hk_b5 (by decide)) hk_b5 (by decide) (by decide) rfl 87 tw_42 rfl 7 rfl (by decide +kernel) ?_
  refine v_iconst C (1) (1) (by decide) 8 rfl (by decide +kernel) ?_
  refine v_iadd C 9 rfl (by decide +kernel) ?_
  obtain ⟨r7, σ6, hcr7, hf⟩ := cl2_e hf
  refine v_cSN C [.int ((σ.1 b5 0) + (1 : Int32))] [] (c_N_bit G l σ ((σ.1 b5 0) + (1 : Int32)) hcr7) 92 1 tw_468 tw_824 tw_467 tw_1 hd_N_bit rfl ⟨(Nat.le_of_ble_eq_true rfl), (Nat.le_of_ble_eq_true rfl)⟩ ⟨(Nat.le_of_ble_eq_true rfl), (Nat.le_of_ble_eq_true rfl)⟩ (Nat.le_of_ble_eq_true rfl) rfl 12 rfl (by decide +kernel) [.long r7] rfl ?_
  refine v_ldc2 C 95 (2) tw_825 15 rfl (by decide +kernel) ?_
  refine v_lsub C 16 rfl (by decide +kernel) ?_
  refine v_aload_n C 0 0 rfl 17 rfl (by decide +kernel) ?_
  obtain ⟨b8, hb8, hf⟩ := drf_e hf
  obtain ⟨hk_b8, hf⟩ := grd_e hf
  refine v_getR C 4 7 hb8 rfl nin_4 (ns_kd_lt hk_a0 (by decide)) hk_a0 (by decide) (by decide) rfl 44 tw_227 rfl 20 rfl (by decide +kernel) ?_
  refine v_getJN C 1 1 rfl nin_1 (ns_kd_lt hk_b8 (by decide)) hk_b8 (by decide) (by decide) rfl 97 tw_48 rfl 23 rfl (by decide +kernel) ?_
  refine v_ldc2 C 101 (-1) tw_826 26 rfl (by decide +kernel) ?_
  refine v_lxor C 27 rfl (by decide +kernel) ?_
  refine v_land C 28 rfl (by decide +kernel) ?_
  obtain ⟨rfl, rfl⟩ := ret_e hf
  exact v_lret C hr (by decide +kernel)
theorem hd_StonePlan_freePlaces : (⟨"NinthStep$StonePlan", "freePlaces", "()J"⟩ : MethodName).cls = "NinthStep$StonePlan" ∧ (⟨"NinthStep$StonePlan", "freePlaces", "()J"⟩ : MethodName).cls ≠ "java/lang/invoke/MethodHandle" ∧ (⟨"NinthStep$StonePlan", "freePlaces", "()J"⟩ : MethodName).cls ≠ "java/lang/invoke/VarHandle" ∧ (parseMethodDescriptor (⟨"NinthStep$StonePlan", "freePlaces", "()J"⟩ : MethodName).desc).map (fun d => d.parameters.length) = some 0 := by decide +kernel
def g_StonePlan_isSafe (σ : ns_St) (a0 : Nat) (a1 : Nat) : Option (Int32 × ns_St) := grd (ns_kd a0 = 4) <| grd (ns_kd a1 = 2) <| drf (σ.2.2 a0 0) fun b8 => grd (ns_kd b8 = 11) <| grd (ns_in (σ.1 a1 2) (ns_ln b8)) <| cl2 (g_Mule_cappedCount σ a1) fun r11 σ10 => cl2 (g_N_isIn σ10 (σ.2.1 b8 (ns_ix (σ.1 a1 2))) r11) fun r13 σ12 => grd (r13 = 0 ∨ r13 = 1) <| some (r13, σ12)
theorem c_StonePlan_isSafe (G : ns_G) (l : Launch) (σ : ns_St) (a0 : Nat) (a1 : Nat) {r : Int32} {σ' : ns_St} (hf : g_StonePlan_isSafe σ a0 a1 = some (r, σ')) : ns_ok G l ⟨"NinthStep$StonePlan", "isSafe", "(LNinthStep$Mule;)Z"⟩ prog_6_method_10_code 2 (some .boolean) 2 41 0 0 [.ref (G.1 + a0), .ref (G.1 + a1)] ns_N σ (some (.int r)) ns_N σ' := by
  refine v_open (by decide) (Nat.le_of_ble_eq_true rfl) rfl ?_
  intro p e s m below meth c C hr _
  have C : ns_Cx G p s m _ meth c prog_6_method_10_code "NinthStep$StonePlan" 2 := C
  unfold g_StonePlan_isSafe at hf
  obtain ⟨hk_a0, hf⟩ := grd_e hf
  obtain ⟨hk_a1, hf⟩ := grd_e hf
  refine v_aload_n C 0 0 rfl 1 rfl (by decide +kernel) ?_
  obtain ⟨b8, hb8, hf⟩ := drf_e hf
  obtain ⟨hk_b8, hf⟩ := grd_e hf
  refine v_getR C 4 0 hb8 rfl nin_4 (ns_kd_lt hk_a0 (by decide)) hk_a0 (by decide) (by decide) rfl 9 tw_220 rfl 4 rfl (by decide +kernel) ?_
  refine v_aload_n C 1 1 rfl 5 rfl (by decide +kernel) ?_
  refine v_getIN C 2 2 rfl nin_2 (ns_kd_lt hk_a1 (by decide)) hk_a1 (by decide) (by decide) rfl 107 tw_90 rfl 8 rfl (by decide +kernel) ?_
  obtain ⟨hi9, hf⟩ := grd_e hf
  refine v_lald C (ns_kd_lt hk_b8 (by decide)) hk_b8 hi9 9 rfl (by decide +kernel) ?_
  refine v_aload_n C 1 1 rfl 10 rfl (by decide +kernel) ?_
  obtain ⟨r11, σ10, hcr11, hf⟩ := cl2_e hf
  refine v_cVN C 2 rfl (ns_kd_lt hk_a1 (by decide)) hk_a1 (by decide) [] [.long (σ.2.1 b8 (ns_ix (σ.1 a1 2)))] (c_Mule_cappedCount G l σ a1 hcr11) 140 0 tw_715 tw_842 tw_714 ts_39 tw_4 hd_Mule_cappedCount rfl ⟨(Nat.le_of_ble_eq_true rfl), (Nat.le_of_ble_eq_true rfl)⟩ ⟨(Nat.le_of_ble_eq_true rfl), (Nat.le_of_ble_eq_true rfl)⟩ (Nat.le_of_ble_eq_true rfl) rfl 13 rfl (by decide +kernel) [.int r11, .long (σ.2.1 b8 (ns_ix (σ.1 a1 2)))] rfl ?_
  obtain ⟨r13, σ12, hcr13, hf⟩ := cl2_e hf
  refine v_cSN C [.long (σ.2.1 b8 (ns_ix (σ.1 a1 2))), .int r11] [] (c_N_isIn G l σ10 (σ.2.1 b8 (ns_ix (σ.1 a1 2))) r11 hcr13) 72 2 tw_455 tw_815 tw_454 tw_1 hd_N_isIn rfl ⟨(Nat.le_of_ble_eq_true rfl), (Nat.le_of_ble_eq_true rfl)⟩ ⟨(Nat.le_of_ble_eq_true rfl), (Nat.le_of_ble_eq_true rfl)⟩ (Nat.le_of_ble_eq_true rfl) rfl 16 rfl (by decide +kernel) [.int r13] rfl ?_
  obtain ⟨hz14, hf⟩ := grd_e hf
  obtain ⟨rfl, rfl⟩ := ret_e hf
  exact v_zret C hr (ns_z01 hz14) (by decide +kernel)
theorem hd_StonePlan_isSafe : (⟨"NinthStep$StonePlan", "isSafe", "(LNinthStep$Mule;)Z"⟩ : MethodName).cls = "NinthStep$StonePlan" ∧ (⟨"NinthStep$StonePlan", "isSafe", "(LNinthStep$Mule;)Z"⟩ : MethodName).cls ≠ "java/lang/invoke/MethodHandle" ∧ (⟨"NinthStep$StonePlan", "isSafe", "(LNinthStep$Mule;)Z"⟩ : MethodName).cls ≠ "java/lang/invoke/VarHandle" ∧ (parseMethodDescriptor (⟨"NinthStep$StonePlan", "isSafe", "(LNinthStep$Mule;)Z"⟩ : MethodName).desc).map (fun d => d.parameters.length) = some 1 := by decide +kernel
def g_StonePlan_fillSafe_71 (kh41 : ns_St → Nat → Nat → Int32 → Option (Unit × ns_St)) : Nat → ns_St → Nat → Nat → Int32 → Int32 → Int32 → Option (Unit × ns_St)
  | 0, _, _, _, _, _, _ => none
  | f + 1, σ, a0, a1, x2, x3, x4 => ite2 (x3 < x4) (bnd (x2 + (-1)) fun z45 => kh41 σ a0 a1 z45) (drf (σ.2.2 a0 6) fun b46 => grd (ns_kd b46 = 2) <| drf (σ.2.2 a0 2) fun b47 => grd (ns_kd b47 = 10) <| grd (ns_in x2 (ns_ln b47)) <| cl2 (g_Mule_standAt σ b46 x2 x4 (σ.1 b47 (ns_ix x2))) fun r50 σ49 => drf (σ49.2.2 a0 6) fun b51 => grd (ns_kd b51 = 2) <| cl2 (g_StonePlan_fallsNext σ49 a0 b51 (0 : Int32)) fun r53 σ52 => ite2 (r53 = 0) (drf (σ52.2.2 a0 6) fun b56 => grd (ns_kd b56 = 2) <| cl2 (g_StonePlan_isSafe σ52 a0 b56) fun r58 σ57 => ite2 (r58 = 0) (bnd (x4 + 1) fun z60 => (g_StonePlan_fillSafe_71 kh41 f) σ57 a0 a1 x2 x3 z60) (drf (σ57.2.2 a0 0) fun b61 => grd (ns_kd b61 = 11) <| grd (ns_in x2 (ns_ln b61)) <| cl2 (g_N_bit σ57 x4) fun r64 σ63 => grd (ns_in x2 (ns_ln b61)) <| bnd (ns_pJ σ63 b61 (ns_ix x2) ((σ57.2.1 b61 (ns_ix x2)) ||| r64)) fun σ66 => bnd (x4 + 1) fun z67 => (g_StonePlan_fillSafe_71 kh41 f) σ66 a0 a1 x2 x3 z67)) (bnd (x4 + 1) fun z55 => (g_StonePlan_fillSafe_71 kh41 f) σ52 a0 a1 x2 x3 z55))
def g_StonePlan_fillSafe_41  : Nat → ns_St → Nat → Nat → Int32 → Option (Unit × ns_St)
  | 0, _, _, _, _ => none
  | f + 1, σ, a0, a1, x2 => ite2 (x2 < (σ.1 a1 2)) (some ((), σ)) (drf (σ.2.2 a0 0) fun b69 => grd (ns_kd b69 = 11) <| grd (ns_in x2 (ns_ln b69)) <| bnd (ns_pJ σ b69 (ns_ix x2) (0 : Int64)) fun σ71 => drf (σ71.2.2 a0 2) fun b72 => grd (ns_kd b72 = 10) <| grd (ns_in x2 (ns_ln b72)) <| cl2 (g_Math_min σ71 (σ71.1 b72 (ns_ix x2)) (63 : Int32)) fun r75 σ74 => g_StonePlan_fillSafe_71 (g_StonePlan_fillSafe_41 f) ns_F σ74 a0 a1 x2 r75 (0 : Int32))
def g_StonePlan_fillSafe (σ : ns_St) (a0 : Nat) (a1 : Nat) : Option (Unit × ns_St) := grd (ns_kd a0 = 4) <| grd (ns_kd a1 = 2) <| drf (σ.2.2 a0 7) fun b76 => grd (ns_kd b76 = 1) <| drf (σ.2.2 a0 6) fun b77 => grd (ns_kd b77 = 2) <| drf (σ.2.2 a0 2) fun b78 => grd (ns_kd b78 = 10) <| cl2 (g_N_tellNumbers σ a1 b76 b77 b78) fun r80 σ79 => drf (σ79.2.2 a0 0) fun b81 => grd (ns_kd b81 = 11) <| drf (σ79.2.2 a0 7) fun b82 => grd (ns_kd b82 = 1) <| grd (ns_in (σ79.1 b82 0) (ns_ln b81)) <| bnd (ns_pJ σ79 b81 (ns_ix (σ79.1 b82 0)) (-1 : Int64)) fun σ84 => drf (σ84.2.2 a0 7) fun b85 => grd (ns_kd b85 = 1) <| bnd ((σ84.1 b85 0) - (1 : Int32)) fun z86 => g_StonePlan_fillSafe_41 ns_F σ84 a0 a1 z86
theorem t_StonePlan_fillSafe_71 (G : ns_G) (l : Launch) {p : Program} {e : Env} {s : State} {m : MethodId} {args : Array Value} {below : List Frame} {meth : Method} {c : Code} (C : ns_Cx G p s m args meth c prog_6_method_9_code "NinthStep$StonePlan" 5) (hr : meth.sig.returnType = none) {r : Unit} {σ' : ns_St} {kh41 : ns_St → Nat → Nat → Int32 → Option (Unit × ns_St)} (hkh41 : ∀ (σ : ns_St) (a0 : Nat) (a1 : Nat) (x2 : Int32), ns_kd a0 = 4 → ns_kd a1 = 2 → kh41 σ a0 a1 x2 = some (r, σ') → VV G p l e { frames := 3, cells := 0, slots := 0, locals := 69 } s m args below meth c 5 0 0 (MQ below (ns_Qc G none ns_N σ') args s 0 0 (ns_A G)) ns_N σ 41 [(0, .ref (G.1 + a0)), (1, .ref (G.1 + a1)), (2, .int x2)] []) : ∀ (f : Nat) (σ : ns_St) (a0 : Nat) (a1 : Nat) (x2 : Int32) (x3 : Int32) (x4 : Int32) (hk_a0 : ns_kd a0 = 4) (hk_a1 : ns_kd a1 = 2), g_StonePlan_fillSafe_71 kh41 f σ a0 a1 x2 x3 x4 = some (r, σ') → VV G p l e { frames := 3, cells := 0, slots := 0, locals := 69 } s m args below meth c 5 0 0 (MQ below (ns_Qc G none ns_N σ') args s 0 0 (ns_A G)) ns_N σ 71 [(0, .ref (G.1 + a0)), (1, .ref (G.1 + a1)), (2, .int x2), (3, .int x3), (4, .int x4)] [] := by
  intro f
  induction f with
  | zero =>
    intro σ a0 a1 x2 x3 x4 hk_a0 hk_a1 hf
    cases hf
  | succ f ih =>
    intro σ a0 a1 x2 x3 x4 hk_a0 hk_a1 hf
    rw [g_StonePlan_fillSafe_71] at hf
    refine v_iload C 4 4 rfl 73 rfl (by decide +kernel) ?_
    refine v_iload_n C 3 3 rfl 74 rfl (by decide +kernel) ?_
    refine v_icmp_gt C 136 77 rfl (by decide +kernel) (fun h44 => ?_) (fun h44 => ?_)
    · have hf := ite2_t hf h44
      obtain ⟨z45, hz45, hf⟩ := bnd_e hf
      refine v_iinc C 2 (-1) 2 z45 rfl (by rw [hz45]; rfl) [(2, .int z45), (0, .ref (G.1 + a0)), (1, .ref (G.1 + a1)), (3, .int x3), (4, .int x4)] (by decide) rfl 139 rfl (by decide +kernel) ?_
      refine v_goto C 41 (by decide +kernel) ?_
      refine v_sub [1, 2, 0] rfl ?_
      exact hkh41 σ a0 a1 z45 hk_a0 hk_a1 hf
    · have hf := ite2_f hf h44
      refine v_aload_n C 0 0 rfl 78 rfl (by decide +kernel) ?_
      obtain ⟨b46, hb46, hf⟩ := drf_e hf
      obtain ⟨hk_b46, hf⟩ := grd_e hf
      refine v_getR C 4 6 hb46 rfl nin_4 (ns_kd_lt hk_a0 (by decide)) hk_a0 (by decide) (by decide) rfl 35 tw_226 rfl 81 rfl (by decide +kernel) ?_
      refine v_iload_n C 2 2 rfl 82 rfl (by decide +kernel) ?_
      refine v_iload C 4 4 rfl 84 rfl (by decide +kernel) ?_
      refine v_aload_n C 0 0 rfl 85 rfl (by decide +kernel) ?_
      obtain ⟨b47, hb47, hf⟩ := drf_e hf
      obtain ⟨hk_b47, hf⟩ := grd_e hf
      refine v_getR C 4 2 hb47 rfl nin_4 (ns_kd_lt hk_a0 (by decide)) hk_a0 (by decide) (by decide) rfl 18 tw_222 rfl 88 rfl (by decide +kernel) ?_
      refine v_iload_n C 2 2 rfl 89 rfl (by decide +kernel) ?_
      obtain ⟨hi48, hf⟩ := grd_e hf
      refine v_iald C (ns_kd_lt hk_b47 (by decide)) hk_b47 hi48 90 rfl (by decide +kernel) ?_
      obtain ⟨r50, σ49, hcr50, hf⟩ := cl2_e hf
      refine v_cVN C 2 rfl (ns_kd_lt hk_b46 (by decide)) hk_b46 (by decide) [.int x2, .int x4, .int (σ.1 b47 (ns_ix x2))] [] (c_Mule_standAt G l σ b46 x2 x4 (σ.1 b47 (ns_ix x2)) hcr50) 136 3 tw_652 tw_837 tw_651 ts_31 tw_4 hd_Mule_standAt rfl ⟨(Nat.le_of_ble_eq_true rfl), (Nat.le_of_ble_eq_true rfl)⟩ ⟨(Nat.le_of_ble_eq_true rfl), (Nat.le_of_ble_eq_true rfl)⟩ (Nat.le_of_ble_eq_true rfl) rfl 93 rfl (by decide +kernel) [] rfl ?_
      refine v_aload_n C 0 0 rfl 94 rfl (by decide +kernel) ?_
      refine v_aload_n C 0 0 rfl 95 rfl (by decide +kernel) ?_
      obtain ⟨b51, hb51, hf⟩ := drf_e hf
      obtain ⟨hk_b51, hf⟩ := grd_e hf
      refine v_getR C 4 6 hb51 rfl nin_4 (ns_kd_lt hk_a0 (by decide)) hk_a0 (by decide) (by decide) rfl 35 tw_226 rfl 98 rfl (by decide +kernel) ?_
      refine v_iconst C (0) (0) (by decide) 99 rfl (by decide +kernel) ?_
      obtain ⟨r53, σ52, hcr53, hf⟩ := cl2_e hf
      refine v_cV C 4 rfl (ns_kd_lt hk_a0 (by decide)) hk_a0 (by decide) [.ref (G.1 + b51), .int (0 : Int32)] [] (c_StonePlan_fallsNext G l σ49 a0 b51 (0 : Int32) hcr53) 110 2 tw_813 tw_810 tw_812 ts_53 tw_7 hd_StonePlan_fallsNext rfl ⟨(Nat.le_of_ble_eq_true rfl), (Nat.le_of_ble_eq_true rfl)⟩ ⟨(Nat.le_of_ble_eq_true rfl), (Nat.le_of_ble_eq_true rfl)⟩ (Nat.le_of_ble_eq_true rfl) rfl 102 rfl (by decide +kernel) [.int r53] rfl ?_
      refine v_if_ne C 130 105 rfl (by decide +kernel) (fun h54 => ?_) (fun h54 => ?_)
      · have hf := ite2_f hf h54
        obtain ⟨z55, hz55, hf⟩ := bnd_e hf
        refine v_iinc C 4 (1) 4 z55 rfl (by rw [hz55]; rfl) [(4, .int z55), (0, .ref (G.1 + a0)), (1, .ref (G.1 + a1)), (2, .int x2), (3, .int x3)] (by decide) rfl 133 rfl (by decide +kernel) ?_
        refine v_goto C 71 (by decide +kernel) ?_
        refine v_sub [1, 2, 3, 4, 0] rfl ?_
        exact ih σ52 a0 a1 x2 x3 z55 hk_a0 hk_a1 hf
      · have hf := ite2_t hf h54
        refine v_aload_n C 0 0 rfl 106 rfl (by decide +kernel) ?_
        refine v_aload_n C 0 0 rfl 107 rfl (by decide +kernel) ?_
        obtain ⟨b56, hb56, hf⟩ := drf_e hf
        obtain ⟨hk_b56, hf⟩ := grd_e hf
        refine v_getR C 4 6 hb56 rfl nin_4 (ns_kd_lt hk_a0 (by decide)) hk_a0 (by decide) (by decide) rfl 35 tw_226 rfl 110 rfl (by decide +kernel) ?_
        obtain ⟨r58, σ57, hcr58, hf⟩ := cl2_e hf
        refine v_cV C 4 rfl (ns_kd_lt hk_a0 (by decide)) hk_a0 (by decide) [.ref (G.1 + b56)] [] (c_StonePlan_isSafe G l σ52 a0 b56 hcr58) 120 1 tw_841 tw_838 tw_840 ts_58 tw_7 hd_StonePlan_isSafe rfl ⟨(Nat.le_of_ble_eq_true rfl), (Nat.le_of_ble_eq_true rfl)⟩ ⟨(Nat.le_of_ble_eq_true rfl), (Nat.le_of_ble_eq_true rfl)⟩ (Nat.le_of_ble_eq_true rfl) rfl 113 rfl (by decide +kernel) [.int r58] rfl ?_
        refine v_if_eq C 130 116 rfl (by decide +kernel) (fun h59 => ?_) (fun h59 => ?_)
        · have hf := ite2_t hf h59
          obtain ⟨z60, hz60, hf⟩ := bnd_e hf
          refine v_iinc C 4 (1) 4 z60 rfl (by rw [hz60]; rfl) [(4, .int z60), (0, .ref (G.1 + a0)), (1, .ref (G.1 + a1)), (2, .int x2), (3, .int x3)] (by decide) rfl 133 rfl (by decide +kernel) ?_
          refine v_goto C 71 (by decide +kernel) ?_
          refine v_sub [1, 2, 3, 4, 0] rfl ?_
          exact ih σ57 a0 a1 x2 x3 z60 hk_a0 hk_a1 hf
        · have hf := ite2_f hf h59
          refine v_aload_n C 0 0 rfl 117 rfl (by decide +kernel) ?_
          obtain ⟨b61, hb61, hf⟩ := drf_e hf
          obtain ⟨hk_b61, hf⟩ := grd_e hf
          refine v_getR C 4 0 hb61 rfl nin_4 (ns_kd_lt hk_a0 (by decide)) hk_a0 (by decide) (by decide) rfl 9 tw_220 rfl 120 rfl (by decide +kernel) ?_
          refine v_iload_n C 2 2 rfl 121 rfl (by decide +kernel) ?_
          refine v_dup2_11 C rfl rfl 122 rfl (by decide +kernel) ?_
          obtain ⟨hi62, hf⟩ := grd_e hf
          refine v_lald C (ns_kd_lt hk_b61 (by decide)) hk_b61 hi62 123 rfl (by decide +kernel) ?_
          refine v_iload C 4 4 rfl 125 rfl (by decide +kernel) ?_
          obtain ⟨r64, σ63, hcr64, hf⟩ := cl2_e hf
          refine v_cSN C [.int x4] [.long (σ57.2.1 b61 (ns_ix x2)), .int x2, .ref (G.1 + b61)] (c_N_bit G l σ57 x4 hcr64) 92 1 tw_468 tw_824 tw_467 tw_1 hd_N_bit rfl ⟨(Nat.le_of_ble_eq_true rfl), (Nat.le_of_ble_eq_true rfl)⟩ ⟨(Nat.le_of_ble_eq_true rfl), (Nat.le_of_ble_eq_true rfl)⟩ (Nat.le_of_ble_eq_true rfl) rfl 128 rfl (by decide +kernel) [.long r64, .long (σ57.2.1 b61 (ns_ix x2)), .int x2, .ref (G.1 + b61)] rfl ?_
          refine v_lor C 129 rfl (by decide +kernel) ?_
          obtain ⟨hi65, hf⟩ := grd_e hf
          obtain ⟨σ66, hσ66, hf⟩ := bnd_e hf
          refine v_last C hσ66 (ns_kd_lt hk_b61 (by decide)) hk_b61 hi65 130 rfl (by decide +kernel) ?_
          obtain ⟨z67, hz67, hf⟩ := bnd_e hf
          refine v_iinc C 4 (1) 4 z67 rfl (by rw [hz67]; rfl) [(4, .int z67), (0, .ref (G.1 + a0)), (1, .ref (G.1 + a1)), (2, .int x2), (3, .int x3)] (by decide) rfl 133 rfl (by decide +kernel) ?_
          refine v_goto C 71 (by decide +kernel) ?_
          refine v_sub [1, 2, 3, 4, 0] rfl ?_
          exact ih σ66 a0 a1 x2 x3 z67 hk_a0 hk_a1 hf
theorem t_StonePlan_fillSafe_41 (G : ns_G) (l : Launch) {p : Program} {e : Env} {s : State} {m : MethodId} {args : Array Value} {below : List Frame} {meth : Method} {c : Code} (C : ns_Cx G p s m args meth c prog_6_method_9_code "NinthStep$StonePlan" 5) (hr : meth.sig.returnType = none) {r : Unit} {σ' : ns_St}  : ∀ (f : Nat) (σ : ns_St) (a0 : Nat) (a1 : Nat) (x2 : Int32) (hk_a0 : ns_kd a0 = 4) (hk_a1 : ns_kd a1 = 2), g_StonePlan_fillSafe_41 f σ a0 a1 x2 = some (r, σ') → VV G p l e { frames := 3, cells := 0, slots := 0, locals := 69 } s m args below meth c 5 0 0 (MQ below (ns_Qc G none ns_N σ') args s 0 0 (ns_A G)) ns_N σ 41 [(0, .ref (G.1 + a0)), (1, .ref (G.1 + a1)), (2, .int x2)] [] := by
  intro f
  induction f with
  | zero =>
    intro σ a0 a1 x2 hk_a0 hk_a1 hf
    cases hf
  | succ f ih =>
    intro σ a0 a1 x2 hk_a0 hk_a1 hf
    rw [g_StonePlan_fillSafe_41] at hf
    refine v_iload_n C 2 2 rfl 42 rfl (by decide +kernel) ?_
    refine v_aload_n C 1 1 rfl 43 rfl (by decide +kernel) ?_
    refine v_getIN C 2 2 rfl nin_2 (ns_kd_lt hk_a1 (by decide)) hk_a1 (by decide) (by decide) rfl 107 tw_90 rfl 46 rfl (by decide +kernel) ?_
    refine v_icmp_lt C 142 49 rfl (by decide +kernel) (fun h68 => ?_) (fun h68 => ?_)
    · have hf := ite2_t hf h68
      obtain ⟨rfl, rfl⟩ := ret_e hf
      exact v_vret C hr (by decide +kernel)
    · have hf := ite2_f hf h68
      refine v_aload_n C 0 0 rfl 50 rfl (by decide +kernel) ?_
      obtain ⟨b69, hb69, hf⟩ := drf_e hf
      obtain ⟨hk_b69, hf⟩ := grd_e hf
      refine v_getR C 4 0 hb69 rfl nin_4 (ns_kd_lt hk_a0 (by decide)) hk_a0 (by decide) (by decide) rfl 9 tw_220 rfl 53 rfl (by decide +kernel) ?_
      refine v_iload_n C 2 2 rfl 54 rfl (by decide +kernel) ?_
      refine v_lconst C 0 (0) (by decide) 55 rfl (by decide +kernel) ?_
      obtain ⟨hi70, hf⟩ := grd_e hf
      obtain ⟨σ71, hσ71, hf⟩ := bnd_e hf
      refine v_last C hσ71 (ns_kd_lt hk_b69 (by decide)) hk_b69 hi70 56 rfl (by decide +kernel) ?_
      refine v_aload_n C 0 0 rfl 57 rfl (by decide +kernel) ?_
      obtain ⟨b72, hb72, hf⟩ := drf_e hf
      obtain ⟨hk_b72, hf⟩ := grd_e hf
      refine v_getR C 4 2 hb72 rfl nin_4 (ns_kd_lt hk_a0 (by decide)) hk_a0 (by decide) (by decide) rfl 18 tw_222 rfl 60 rfl (by decide +kernel) ?_
      refine v_iload_n C 2 2 rfl 61 rfl (by decide +kernel) ?_
      obtain ⟨hi73, hf⟩ := grd_e hf
      refine v_iald C (ns_kd_lt hk_b72 (by decide)) hk_b72 hi73 62 rfl (by decide +kernel) ?_
      refine v_bipush C (63) (63) (by decide) 64 rfl (by decide +kernel) ?_
      obtain ⟨r75, σ74, hcr75, hf⟩ := cl2_e hf
      refine v_cS C [.int (σ71.1 b72 (ns_ix x2)), .int (63 : Int32)] [] (c_Math_min G l σ71 (σ71.1 b72 (ns_ix x2)) (63 : Int32) hcr75) 130 2 tw_663 tw_836 tw_662 tw_18 hd_Math_min rfl ⟨(Nat.le_of_ble_eq_true rfl), (Nat.le_of_ble_eq_true rfl)⟩ ⟨(Nat.le_of_ble_eq_true rfl), (Nat.le_of_ble_eq_true rfl)⟩ (Nat.le_of_ble_eq_true rfl) rfl 67 rfl (by decide +kernel) [.int r75] rfl ?_
      refine v_istore_n C 3 [(3, .int r75), (0, .ref (G.1 + a0)), (1, .ref (G.1 + a1)), (2, .int x2)] (by decide) rfl 68 rfl (by decide +kernel) ?_
      refine v_iconst C (0) (0) (by decide) 69 rfl (by decide +kernel) ?_
      refine v_istore C 4 [(4, .int (0 : Int32)), (3, .int r75), (0, .ref (G.1 + a0)), (1, .ref (G.1 + a1)), (2, .int x2)] (by decide) rfl 71 rfl (by decide +kernel) ?_
      refine v_sub [2, 3, 4, 1, 0] rfl ?_
      exact t_StonePlan_fillSafe_71 G l C hr ih ns_F σ74 a0 a1 x2 r75 (0 : Int32) hk_a0 hk_a1 hf
theorem c_StonePlan_fillSafe (G : ns_G) (l : Launch) (σ : ns_St) (a0 : Nat) (a1 : Nat) {r : Unit} {σ' : ns_St} (hf : g_StonePlan_fillSafe σ a0 a1 = some (r, σ')) : ns_ok G l ⟨"NinthStep$StonePlan", "fillSafe", "(LNinthStep$Mule;)V"⟩ prog_6_method_9_code 5 none 3 69 0 0 [.ref (G.1 + a0), .ref (G.1 + a1)] ns_N σ none ns_N σ' := by
  refine v_open (by decide) (Nat.le_of_ble_eq_true rfl) rfl ?_
  intro p e s m below meth c C hr _
  have C : ns_Cx G p s m _ meth c prog_6_method_9_code "NinthStep$StonePlan" 5 := C
  unfold g_StonePlan_fillSafe at hf
  obtain ⟨hk_a0, hf⟩ := grd_e hf
  obtain ⟨hk_a1, hf⟩ := grd_e hf
  refine v_aload_n C 1 1 rfl 1 rfl (by decide +kernel) ?_
  refine v_aload_n C 0 0 rfl 2 rfl (by decide +kernel) ?_
  obtain ⟨b76, hb76, hf⟩ := drf_e hf
  obtain ⟨hk_b76, hf⟩ := grd_e hf
  refine v_getR C 4 7 hb76 rfl nin_4 (ns_kd_lt hk_a0 (by decide)) hk_a0 (by decide) (by decide) rfl 44 tw_227 rfl 5 rfl (by decide +kernel) ?_
  refine v_aload_n C 0 0 rfl 6 rfl (by decide +kernel) ?_
  obtain ⟨b77, hb77, hf⟩ := drf_e hf
  obtain ⟨hk_b77, hf⟩ := grd_e hf
  refine v_getR C 4 6 hb77 rfl nin_4 (ns_kd_lt hk_a0 (by decide)) hk_a0 (by decide) (by decide) rfl 35 tw_226 rfl 9 rfl (by decide +kernel) ?_
  refine v_aload_n C 0 0 rfl 10 rfl (by decide +kernel) ?_
  obtain ⟨b78, hb78, hf⟩ := drf_e hf
  obtain ⟨hk_b78, hf⟩ := grd_e hf
  refine v_getR C 4 2 hb78 rfl nin_4 (ns_kd_lt hk_a0 (by decide)) hk_a0 (by decide) (by decide) rfl 18 tw_222 rfl 13 rfl (by decide +kernel) ?_
  obtain ⟨r80, σ79, hcr80, hf⟩ := cl2_e hf
  refine v_cSN C [.ref (G.1 + a1), .ref (G.1 + b76), .ref (G.1 + b77), .ref (G.1 + b78)] [] (c_N_tellNumbers G l σ a1 b76 b77 b78 hcr80) 126 4 tw_718 tw_835 tw_717 tw_1 hd_N_tellNumbers rfl ⟨(Nat.le_of_ble_eq_true rfl), (Nat.le_of_ble_eq_true rfl)⟩ ⟨(Nat.le_of_ble_eq_true rfl), (Nat.le_of_ble_eq_true rfl)⟩ (Nat.le_of_ble_eq_true rfl) rfl 16 rfl (by decide +kernel) [] rfl ?_
  refine v_aload_n C 0 0 rfl 17 rfl (by decide +kernel) ?_
  obtain ⟨b81, hb81, hf⟩ := drf_e hf
  obtain ⟨hk_b81, hf⟩ := grd_e hf
  refine v_getR C 4 0 hb81 rfl nin_4 (ns_kd_lt hk_a0 (by decide)) hk_a0 (by decide) (by decide) rfl 9 tw_220 rfl 20 rfl (by decide +kernel) ?_
  refine v_aload_n C 0 0 rfl 21 rfl (by decide +kernel) ?_
  obtain ⟨b82, hb82, hf⟩ := drf_e hf
  obtain ⟨hk_b82, hf⟩ := grd_e hf
  refine v_getR C 4 7 hb82 rfl nin_4 (ns_kd_lt hk_a0 (by decide)) hk_a0 (by decide) (by decide) rfl 44 tw_227 rfl 24 rfl (by decide +kernel) ?_
  refine v_getIN C 1 0 rfl nin_1 (ns_kd_lt hk_b82 (by decide)) hk_b82 (by decide) (by decide) rfl 87 tw_42 rfl 27 rfl (by decide +kernel) ?_
  refine v_ldc2 C 101 (-1) tw_826 30 rfl (by decide +kernel) ?_
  obtain ⟨hi83, hf⟩ := grd_e hf
  obtain ⟨σ84, hσ84, hf⟩ := bnd_e hf
  refine v_last C hσ84 (ns_kd_lt hk_b81 (by decide)) hk_b81 hi83 31 rfl (by decide +kernel) ?_
  refine v_aload_n C 0 0 rfl 32 rfl (by decide +kernel) ?_
  obtain ⟨b85, hb85, hf⟩ := drf_e hf
  obtain ⟨hk_b85, hf⟩ := grd_e hf
  refine v_getR C 4 7 hb85 rfl nin_4 (ns_kd_lt hk_a0 (by decide)) hk_a0 (by decide) (by decide) rfl 44 tw_227 rfl 35 rfl (by decide +kernel) ?_
  refine v_getIN C 1 0 rfl nin_1 (ns_kd_lt hk_b85 (by decide)) hk_b85 (by decide) (by decide) rfl 87 tw_42 rfl 38 rfl (by decide +kernel) ?_
  refine v_iconst C (1) (1) (by decide) 39 rfl (by decide +kernel) ?_
  refine v_isub C 40 rfl (by decide +kernel) ?_
  obtain ⟨z86, hz86, hf⟩ := bnd_e hf
  refine v_nmI hz86 ?_
  refine v_istore_n C 2 [(2, .int z86), (0, .ref (G.1 + a0)), (1, .ref (G.1 + a1))] (by decide) rfl 41 rfl (by decide +kernel) ?_
  refine v_sub [1, 2, 0] rfl ?_
  exact t_StonePlan_fillSafe_41 G l C hr  ns_F σ84 a0 a1 z86 hk_a0 hk_a1 hf
theorem hd_StonePlan_fillSafe : (⟨"NinthStep$StonePlan", "fillSafe", "(LNinthStep$Mule;)V"⟩ : MethodName).cls = "NinthStep$StonePlan" ∧ (⟨"NinthStep$StonePlan", "fillSafe", "(LNinthStep$Mule;)V"⟩ : MethodName).cls ≠ "java/lang/invoke/MethodHandle" ∧ (⟨"NinthStep$StonePlan", "fillSafe", "(LNinthStep$Mule;)V"⟩ : MethodName).cls ≠ "java/lang/invoke/VarHandle" ∧ (parseMethodDescriptor (⟨"NinthStep$StonePlan", "fillSafe", "(LNinthStep$Mule;)V"⟩ : MethodName).desc).map (fun d => d.parameters.length) = some 1 := by decide +kernel
def g_StonePlan_helpersAhead_75 (kh18 : ns_St → Nat → Nat → Int64 → Int32 → Option (Int64 × ns_St)) (σ : ns_St) (a0 : Nat) (a1 : Nat) (x2 : Int64) (x4 : Int32) : Option (Int64 × ns_St) := drf (σ.2.2 a0 5) fun b27 => grd (ns_kd b27 = 2) <| cl2 (g_StonePlan_fallsNext σ a0 b27 (0 : Int32)) fun r29 σ28 => ite2 (r29 = 0) (bnd (x4 + 1) fun z31 => kh18 σ28 a0 a1 x2 z31) (some (x2, σ28))
def g_StonePlan_helpersAhead_18  : Nat → ns_St → Nat → Nat → Int64 → Int32 → Option (Int64 × ns_St)
  | 0, _, _, _, _, _ => none
  | f + 1, σ, a0, a1, x2, x4 => drf (σ.2.2 a0 7) fun b32 => grd (ns_kd b32 = 1) <| ite2 ((σ.1 b32 0) < x4) (some (x2, σ)) (drf (σ.2.2 a0 6) fun b34 => grd (ns_kd b34 = 2) <| drf (σ.2.2 a0 5) fun b35 => grd (ns_kd b35 = 2) <| cl2 (g_Mule_takeFrom σ b34 b35) fun r37 σ36 => drf (σ36.2.2 a0 6) fun b38 => grd (ns_kd b38 = 2) <| cl2 (g_StonePlan_fallsNext σ36 a0 b38 (σ36.1 a1 7)) fun r40 σ39 => ite2 (r40 = 0) (drf (σ39.2.2 a0 6) fun b42 => grd (ns_kd b42 = 2) <| cl2 (g_StonePlan_isSafe σ39 a0 b42) fun r44 σ43 => ite2 (r44 = 0) (g_StonePlan_helpersAhead_75 (g_StonePlan_helpersAhead_18 f) σ43 a0 a1 x2 x4) (cl2 (g_N_bit σ43 x4) fun r47 σ46 => bnd (x2 ||| r47) fun z48 => g_StonePlan_helpersAhead_75 (g_StonePlan_helpersAhead_18 f) σ46 a0 a1 z48 x4)) (g_StonePlan_helpersAhead_75 (g_StonePlan_helpersAhead_18 f) σ39 a0 a1 x2 x4))
def g_StonePlan_helpersAhead (σ : ns_St) (a0 : Nat) (a1 : Nat) : Option (Int64 × ns_St) := grd (ns_kd a0 = 4) <| grd (ns_kd a1 = 2) <| drf (σ.2.2 a0 5) fun b49 => grd (ns_kd b49 = 2) <| cl2 (g_Mule_takeFrom σ b49 a1) fun r51 σ50 => bnd ((σ50.1 a1 2) + (1 : Int32)) fun z52 => g_StonePlan_helpersAhead_18 ns_F σ50 a0 a1 (0 : Int64) z52
theorem t_StonePlan_helpersAhead_75 (G : ns_G) (l : Launch) {p : Program} {e : Env} {s : State} {m : MethodId} {args : Array Value} {below : List Frame} {meth : Method} {c : Code} (C : ns_Cx G p s m args meth c prog_6_method_11_code "NinthStep$StonePlan" 5) (hr : meth.sig.returnType = (some .long)) {r : Int64} {σ' : ns_St} {kh18 : ns_St → Nat → Nat → Int64 → Int32 → Option (Int64 × ns_St)} (hkh18 : ∀ (σ : ns_St) (a0 : Nat) (a1 : Nat) (x2 : Int64) (x4 : Int32), ns_kd a0 = 4 → ns_kd a1 = 2 → kh18 σ a0 a1 x2 x4 = some (r, σ') → VV G p l e { frames := 3, cells := 0, slots := 0, locals := 67 } s m args below meth c 5 0 0 (MQ below (ns_Qc G (some (.long r)) ns_N σ') args s 0 0 (ns_A G)) ns_N σ 18 [(0, .ref (G.1 + a0)), (1, .ref (G.1 + a1)), (2, .long x2), (4, .int x4)] []) (σ : ns_St) (a0 : Nat) (a1 : Nat) (x2 : Int64) (x4 : Int32) (hk_a0 : ns_kd a0 = 4) (hk_a1 : ns_kd a1 = 2) (hf : g_StonePlan_helpersAhead_75 kh18 σ a0 a1 x2 x4 = some (r, σ')) : VV G p l e { frames := 3, cells := 0, slots := 0, locals := 67 } s m args below meth c 5 0 0 (MQ below (ns_Qc G (some (.long r)) ns_N σ') args s 0 0 (ns_A G)) ns_N σ 75 [(0, .ref (G.1 + a0)), (1, .ref (G.1 + a1)), (2, .long x2), (4, .int x4)] [] := by
  unfold g_StonePlan_helpersAhead_75 at hf
  refine v_aload_n C 0 0 rfl 76 rfl (by decide +kernel) ?_
  refine v_aload_n C 0 0 rfl 77 rfl (by decide +kernel) ?_
  obtain ⟨b27, hb27, hf⟩ := drf_e hf
  obtain ⟨hk_b27, hf⟩ := grd_e hf
  refine v_getR C 4 5 hb27 rfl nin_4 (ns_kd_lt hk_a0 (by decide)) hk_a0 (by decide) (by decide) rfl 32 tw_225 rfl 80 rfl (by decide +kernel) ?_
  refine v_iconst C (0) (0) (by decide) 81 rfl (by decide +kernel) ?_
  obtain ⟨r29, σ28, hcr29, hf⟩ := cl2_e hf
  refine v_cV C 4 rfl (ns_kd_lt hk_a0 (by decide)) hk_a0 (by decide) [.ref (G.1 + b27), .int (0 : Int32)] [] (c_StonePlan_fallsNext G l σ a0 b27 (0 : Int32) hcr29) 110 2 tw_813 tw_810 tw_812 ts_53 tw_7 hd_StonePlan_fallsNext rfl ⟨(Nat.le_of_ble_eq_true rfl), (Nat.le_of_ble_eq_true rfl)⟩ ⟨(Nat.le_of_ble_eq_true rfl), (Nat.le_of_ble_eq_true rfl)⟩ (Nat.le_of_ble_eq_true rfl) rfl 84 rfl (by decide +kernel) [.int r29] rfl ?_
  refine v_if_eq C 90 87 rfl (by decide +kernel) (fun h30 => ?_) (fun h30 => ?_)
  · have hf := ite2_t hf h30
    obtain ⟨z31, hz31, hf⟩ := bnd_e hf
    refine v_iinc C 4 (1) 3 z31 rfl (by rw [hz31]; rfl) [(4, .int z31), (0, .ref (G.1 + a0)), (1, .ref (G.1 + a1)), (2, .long x2)] (by decide) rfl 93 rfl (by decide +kernel) ?_
    refine v_goto C 18 (by decide +kernel) ?_
    refine v_sub [1, 2, 3, 0] rfl ?_
    exact hkh18 σ28 a0 a1 x2 z31 hk_a0 hk_a1 hf
  · have hf := ite2_f hf h30
    refine v_goto C 96 (by decide +kernel) ?_
    refine v_lload_n C 2 2 rfl 97 rfl (by decide +kernel) ?_
    obtain ⟨rfl, rfl⟩ := ret_e hf
    exact v_lret C hr (by decide +kernel)
theorem t_StonePlan_helpersAhead_18 (G : ns_G) (l : Launch) {p : Program} {e : Env} {s : State} {m : MethodId} {args : Array Value} {below : List Frame} {meth : Method} {c : Code} (C : ns_Cx G p s m args meth c prog_6_method_11_code "NinthStep$StonePlan" 5) (hr : meth.sig.returnType = (some .long)) {r : Int64} {σ' : ns_St}  : ∀ (f : Nat) (σ : ns_St) (a0 : Nat) (a1 : Nat) (x2 : Int64) (x4 : Int32) (hk_a0 : ns_kd a0 = 4) (hk_a1 : ns_kd a1 = 2), g_StonePlan_helpersAhead_18 f σ a0 a1 x2 x4 = some (r, σ') → VV G p l e { frames := 3, cells := 0, slots := 0, locals := 67 } s m args below meth c 5 0 0 (MQ below (ns_Qc G (some (.long r)) ns_N σ') args s 0 0 (ns_A G)) ns_N σ 18 [(0, .ref (G.1 + a0)), (1, .ref (G.1 + a1)), (2, .long x2), (4, .int x4)] [] := by
  intro f
  induction f with
  | zero =>
    intro σ a0 a1 x2 x4 hk_a0 hk_a1 hf
    cases hf
  | succ f ih =>
    intro σ a0 a1 x2 x4 hk_a0 hk_a1 hf
    rw [g_StonePlan_helpersAhead_18] at hf
    refine v_iload C 4 3 rfl 20 rfl (by decide +kernel) ?_
    refine v_aload_n C 0 0 rfl 21 rfl (by decide +kernel) ?_
    obtain ⟨b32, hb32, hf⟩ := drf_e hf
    obtain ⟨hk_b32, hf⟩ := grd_e hf
    refine v_getR C 4 7 hb32 rfl nin_4 (ns_kd_lt hk_a0 (by decide)) hk_a0 (by decide) (by decide) rfl 44 tw_227 rfl 24 rfl (by decide +kernel) ?_
    refine v_getIN C 1 0 rfl nin_1 (ns_kd_lt hk_b32 (by decide)) hk_b32 (by decide) (by decide) rfl 87 tw_42 rfl 27 rfl (by decide +kernel) ?_
    refine v_icmp_gt C 96 30 rfl (by decide +kernel) (fun h33 => ?_) (fun h33 => ?_)
    · have hf := ite2_t hf h33
      refine v_lload_n C 2 2 rfl 97 rfl (by decide +kernel) ?_
      obtain ⟨rfl, rfl⟩ := ret_e hf
      exact v_lret C hr (by decide +kernel)
    · have hf := ite2_f hf h33
      refine v_aload_n C 0 0 rfl 31 rfl (by decide +kernel) ?_
      obtain ⟨b34, hb34, hf⟩ := drf_e hf
      obtain ⟨hk_b34, hf⟩ := grd_e hf
      refine v_getR C 4 6 hb34 rfl nin_4 (ns_kd_lt hk_a0 (by decide)) hk_a0 (by decide) (by decide) rfl 35 tw_226 rfl 34 rfl (by decide +kernel) ?_
      refine v_aload_n C 0 0 rfl 35 rfl (by decide +kernel) ?_
      obtain ⟨b35, hb35, hf⟩ := drf_e hf
      obtain ⟨hk_b35, hf⟩ := grd_e hf
      refine v_getR C 4 5 hb35 rfl nin_4 (ns_kd_lt hk_a0 (by decide)) hk_a0 (by decide) (by decide) rfl 32 tw_225 rfl 38 rfl (by decide +kernel) ?_
      obtain ⟨r37, σ36, hcr37, hf⟩ := cl2_e hf
      refine v_cVN C 2 rfl (ns_kd_lt hk_b34 (by decide)) hk_b34 (by decide) [.ref (G.1 + b35)] [] (c_Mule_takeFrom G l σ b34 b35 hcr37) 103 1 tw_522 tw_809 tw_521 ts_19 tw_4 hd_Mule_takeFrom rfl ⟨(Nat.le_of_ble_eq_true rfl), (Nat.le_of_ble_eq_true rfl)⟩ ⟨(Nat.le_of_ble_eq_true rfl), (Nat.le_of_ble_eq_true rfl)⟩ (Nat.le_of_ble_eq_true rfl) rfl 41 rfl (by decide +kernel) [] rfl ?_
      refine v_aload_n C 0 0 rfl 42 rfl (by decide +kernel) ?_
      refine v_aload_n C 0 0 rfl 43 rfl (by decide +kernel) ?_
      obtain ⟨b38, hb38, hf⟩ := drf_e hf
      obtain ⟨hk_b38, hf⟩ := grd_e hf
      refine v_getR C 4 6 hb38 rfl nin_4 (ns_kd_lt hk_a0 (by decide)) hk_a0 (by decide) (by decide) rfl 35 tw_226 rfl 46 rfl (by decide +kernel) ?_
      refine v_aload_n C 1 1 rfl 47 rfl (by decide +kernel) ?_
      refine v_getIN C 2 7 rfl nin_2 (ns_kd_lt hk_a1 (by decide)) hk_a1 (by decide) (by decide) rfl 123 tw_107 rfl 50 rfl (by decide +kernel) ?_
      obtain ⟨r40, σ39, hcr40, hf⟩ := cl2_e hf
      refine v_cV C 4 rfl (ns_kd_lt hk_a0 (by decide)) hk_a0 (by decide) [.ref (G.1 + b38), .int (σ36.1 a1 7)] [] (c_StonePlan_fallsNext G l σ36 a0 b38 (σ36.1 a1 7) hcr40) 110 2 tw_813 tw_810 tw_812 ts_53 tw_7 hd_StonePlan_fallsNext rfl ⟨(Nat.le_of_ble_eq_true rfl), (Nat.le_of_ble_eq_true rfl)⟩ ⟨(Nat.le_of_ble_eq_true rfl), (Nat.le_of_ble_eq_true rfl)⟩ (Nat.le_of_ble_eq_true rfl) rfl 53 rfl (by decide +kernel) [.int r40] rfl ?_
      refine v_if_ne C 75 56 rfl (by decide +kernel) (fun h41 => ?_) (fun h41 => ?_)
      · have hf := ite2_f hf h41
        exact t_StonePlan_helpersAhead_75 G l C hr ih σ39 a0 a1 x2 x4 hk_a0 hk_a1 hf
      · have hf := ite2_t hf h41
        refine v_aload_n C 0 0 rfl 57 rfl (by decide +kernel) ?_
        refine v_aload_n C 0 0 rfl 58 rfl (by decide +kernel) ?_
        obtain ⟨b42, hb42, hf⟩ := drf_e hf
        obtain ⟨hk_b42, hf⟩ := grd_e hf
        refine v_getR C 4 6 hb42 rfl nin_4 (ns_kd_lt hk_a0 (by decide)) hk_a0 (by decide) (by decide) rfl 35 tw_226 rfl 61 rfl (by decide +kernel) ?_
        obtain ⟨r44, σ43, hcr44, hf⟩ := cl2_e hf
        refine v_cV C 4 rfl (ns_kd_lt hk_a0 (by decide)) hk_a0 (by decide) [.ref (G.1 + b42)] [] (c_StonePlan_isSafe G l σ39 a0 b42 hcr44) 120 1 tw_841 tw_838 tw_840 ts_58 tw_7 hd_StonePlan_isSafe rfl ⟨(Nat.le_of_ble_eq_true rfl), (Nat.le_of_ble_eq_true rfl)⟩ ⟨(Nat.le_of_ble_eq_true rfl), (Nat.le_of_ble_eq_true rfl)⟩ (Nat.le_of_ble_eq_true rfl) rfl 64 rfl (by decide +kernel) [.int r44] rfl ?_
        refine v_if_eq C 75 67 rfl (by decide +kernel) (fun h45 => ?_) (fun h45 => ?_)
        · have hf := ite2_t hf h45
          exact t_StonePlan_helpersAhead_75 G l C hr ih σ43 a0 a1 x2 x4 hk_a0 hk_a1 hf
        · have hf := ite2_f hf h45
          refine v_lload_n C 2 2 rfl 68 rfl (by decide +kernel) ?_
          refine v_iload C 4 3 rfl 70 rfl (by decide +kernel) ?_
          obtain ⟨r47, σ46, hcr47, hf⟩ := cl2_e hf
          refine v_cSN C [.int x4] [.long x2] (c_N_bit G l σ43 x4 hcr47) 92 1 tw_468 tw_824 tw_467 tw_1 hd_N_bit rfl ⟨(Nat.le_of_ble_eq_true rfl), (Nat.le_of_ble_eq_true rfl)⟩ ⟨(Nat.le_of_ble_eq_true rfl), (Nat.le_of_ble_eq_true rfl)⟩ (Nat.le_of_ble_eq_true rfl) rfl 73 rfl (by decide +kernel) [.long r47, .long x2] rfl ?_
          refine v_lor C 74 rfl (by decide +kernel) ?_
          obtain ⟨z48, hz48, hf⟩ := bnd_e hf
          refine v_nmJ hz48 ?_
          refine v_lstore_n C 2 [(2, .long z48), (0, .ref (G.1 + a0)), (1, .ref (G.1 + a1)), (4, .int x4)] (by decide) rfl 75 rfl (by decide +kernel) ?_
          refine v_sub [1, 2, 0, 3] rfl ?_
          exact t_StonePlan_helpersAhead_75 G l C hr ih σ46 a0 a1 z48 x4 hk_a0 hk_a1 hf
theorem c_StonePlan_helpersAhead (G : ns_G) (l : Launch) (σ : ns_St) (a0 : Nat) (a1 : Nat) {r : Int64} {σ' : ns_St} (hf : g_StonePlan_helpersAhead σ a0 a1 = some (r, σ')) : ns_ok G l ⟨"NinthStep$StonePlan", "helpersAhead", "(LNinthStep$Mule;)J"⟩ prog_6_method_11_code 5 (some .long) 3 67 0 0 [.ref (G.1 + a0), .ref (G.1 + a1)] ns_N σ (some (.long r)) ns_N σ' := by
  refine v_open (by decide) (Nat.le_of_ble_eq_true rfl) rfl ?_
  intro p e s m below meth c C hr _
  have C : ns_Cx G p s m _ meth c prog_6_method_11_code "NinthStep$StonePlan" 5 := C
  unfold g_StonePlan_helpersAhead at hf
  obtain ⟨hk_a0, hf⟩ := grd_e hf
  obtain ⟨hk_a1, hf⟩ := grd_e hf
  refine v_lconst C 0 (0) (by decide) 1 rfl (by decide +kernel) ?_
  refine v_lstore_n C 2 [(2, .long (0 : Int64)), (0, .ref (G.1 + a0)), (1, .ref (G.1 + a1))] (by decide) rfl 2 rfl (by decide +kernel) ?_
  refine v_aload_n C 0 1 rfl 3 rfl (by decide +kernel) ?_
  obtain ⟨b49, hb49, hf⟩ := drf_e hf
  obtain ⟨hk_b49, hf⟩ := grd_e hf
  refine v_getR C 4 5 hb49 rfl nin_4 (ns_kd_lt hk_a0 (by decide)) hk_a0 (by decide) (by decide) rfl 32 tw_225 rfl 6 rfl (by decide +kernel) ?_
  refine v_aload_n C 1 2 rfl 7 rfl (by decide +kernel) ?_
  obtain ⟨r51, σ50, hcr51, hf⟩ := cl2_e hf
  refine v_cVN C 2 rfl (ns_kd_lt hk_b49 (by decide)) hk_b49 (by decide) [.ref (G.1 + a1)] [] (c_Mule_takeFrom G l σ b49 a1 hcr51) 103 1 tw_522 tw_809 tw_521 ts_19 tw_4 hd_Mule_takeFrom rfl ⟨(Nat.le_of_ble_eq_true rfl), (Nat.le_of_ble_eq_true rfl)⟩ ⟨(Nat.le_of_ble_eq_true rfl), (Nat.le_of_ble_eq_true rfl)⟩ (Nat.le_of_ble_eq_true rfl) rfl 10 rfl (by decide +kernel) [] rfl ?_
  refine v_aload_n C 1 2 rfl 11 rfl (by decide +kernel) ?_
  refine v_getIN C 2 2 rfl nin_2 (ns_kd_lt hk_a1 (by decide)) hk_a1 (by decide) (by decide) rfl 107 tw_90 rfl 14 rfl (by decide +kernel) ?_
  refine v_iconst C (1) (1) (by decide) 15 rfl (by decide +kernel) ?_
  refine v_iadd C 16 rfl (by decide +kernel) ?_
  obtain ⟨z52, hz52, hf⟩ := bnd_e hf
  refine v_nmI hz52 ?_
  refine v_istore C 4 [(4, .int z52), (2, .long (0 : Int64)), (0, .ref (G.1 + a0)), (1, .ref (G.1 + a1))] (by decide) rfl 18 rfl (by decide +kernel) ?_
  refine v_sub [2, 3, 1, 0] rfl ?_
  exact t_StonePlan_helpersAhead_18 G l C hr  ns_F σ50 a0 a1 (0 : Int64) z52 hk_a0 hk_a1 hf
theorem hd_StonePlan_helpersAhead : (⟨"NinthStep$StonePlan", "helpersAhead", "(LNinthStep$Mule;)J"⟩ : MethodName).cls = "NinthStep$StonePlan" ∧ (⟨"NinthStep$StonePlan", "helpersAhead", "(LNinthStep$Mule;)J"⟩ : MethodName).cls ≠ "java/lang/invoke/MethodHandle" ∧ (⟨"NinthStep$StonePlan", "helpersAhead", "(LNinthStep$Mule;)J"⟩ : MethodName).cls ≠ "java/lang/invoke/VarHandle" ∧ (parseMethodDescriptor (⟨"NinthStep$StonePlan", "helpersAhead", "(LNinthStep$Mule;)J"⟩ : MethodName).desc).map (fun d => d.parameters.length) = some 1 := by decide +kernel
def g_StonePlan_helpersFor (σ : ns_St) (a0 : Nat) (a1 : Nat) : Option (Int64 × ns_St) := grd (ns_kd a0 = 4) <| grd (ns_kd a1 = 2) <| cl2 (g_StonePlan_fillSafe σ a0 a1) fun r11 σ10 => cl2 (g_StonePlan_helpersAhead σ10 a0 a1) fun r13 σ12 => cl2 (g_StonePlan_isSafe σ12 a0 a1) fun r15 σ14 => ite2 (r15 = 0) (some ((r13 ||| (0 : Int64)), σ14)) (cl2 (g_N_above σ14 (σ14.1 a1 2)) fun r18 σ17 => some ((r13 ||| (r18 ^^^ (-1 : Int64))), σ17))
theorem c_StonePlan_helpersFor (G : ns_G) (l : Launch) (σ : ns_St) (a0 : Nat) (a1 : Nat) {r : Int64} {σ' : ns_St} (hf : g_StonePlan_helpersFor σ a0 a1 = some (r, σ')) : ns_ok G l ⟨"NinthStep$StonePlan", "helpersFor", "(LNinthStep$Mule;)J"⟩ prog_6_method_7_code 2 (some .long) 4 93 0 0 [.ref (G.1 + a0), .ref (G.1 + a1)] ns_N σ (some (.long r)) ns_N σ' := by
  refine v_open (by decide) (Nat.le_of_ble_eq_true rfl) rfl ?_
  intro p e s m below meth c C hr _
  have C : ns_Cx G p s m _ meth c prog_6_method_7_code "NinthStep$StonePlan" 2 := C
  unfold g_StonePlan_helpersFor at hf
  obtain ⟨hk_a0, hf⟩ := grd_e hf
  obtain ⟨hk_a1, hf⟩ := grd_e hf
  refine v_aload_n C 0 0 rfl 1 rfl (by decide +kernel) ?_
  refine v_aload_n C 1 1 rfl 2 rfl (by decide +kernel) ?_
  obtain ⟨r11, σ10, hcr11, hf⟩ := cl2_e hf
  refine v_cV C 4 rfl (ns_kd_lt hk_a0 (by decide)) hk_a0 (by decide) [.ref (G.1 + a1)] [] (c_StonePlan_fillSafe G l σ a0 a1 hcr11) 114 1 tw_834 tw_831 tw_833 ts_57 tw_7 hd_StonePlan_fillSafe rfl ⟨(Nat.le_of_ble_eq_true rfl), (Nat.le_of_ble_eq_true rfl)⟩ ⟨(Nat.le_of_ble_eq_true rfl), (Nat.le_of_ble_eq_true rfl)⟩ (Nat.le_of_ble_eq_true rfl) rfl 5 rfl (by decide +kernel) [] rfl ?_
  refine v_aload_n C 0 0 rfl 6 rfl (by decide +kernel) ?_
  refine v_aload_n C 1 1 rfl 7 rfl (by decide +kernel) ?_
  obtain ⟨r13, σ12, hcr13, hf⟩ := cl2_e hf
  refine v_cV C 4 rfl (ns_kd_lt hk_a0 (by decide)) hk_a0 (by decide) [.ref (G.1 + a1)] [] (c_StonePlan_helpersAhead G l σ10 a0 a1 hcr13) 117 1 tw_846 tw_843 tw_845 ts_59 tw_7 hd_StonePlan_helpersAhead rfl ⟨(Nat.le_of_ble_eq_true rfl), (Nat.le_of_ble_eq_true rfl)⟩ ⟨(Nat.le_of_ble_eq_true rfl), (Nat.le_of_ble_eq_true rfl)⟩ (Nat.le_of_ble_eq_true rfl) rfl 10 rfl (by decide +kernel) [.long r13] rfl ?_
  refine v_aload_n C 0 0 rfl 11 rfl (by decide +kernel) ?_
  refine v_aload_n C 1 1 rfl 12 rfl (by decide +kernel) ?_
  obtain ⟨r15, σ14, hcr15, hf⟩ := cl2_e hf
  refine v_cV C 4 rfl (ns_kd_lt hk_a0 (by decide)) hk_a0 (by decide) [.ref (G.1 + a1)] [.long r13] (c_StonePlan_isSafe G l σ12 a0 a1 hcr15) 120 1 tw_841 tw_838 tw_840 ts_58 tw_7 hd_StonePlan_isSafe rfl ⟨(Nat.le_of_ble_eq_true rfl), (Nat.le_of_ble_eq_true rfl)⟩ ⟨(Nat.le_of_ble_eq_true rfl), (Nat.le_of_ble_eq_true rfl)⟩ (Nat.le_of_ble_eq_true rfl) rfl 15 rfl (by decide +kernel) [.int r15, .long r13] rfl ?_
  refine v_if_eq C 32 18 rfl (by decide +kernel) (fun h16 => ?_) (fun h16 => ?_)
  · have hf := ite2_t hf h16
    refine v_lconst C 0 (0) (by decide) 33 rfl (by decide +kernel) ?_
    refine v_lor C 34 rfl (by decide +kernel) ?_
    obtain ⟨rfl, rfl⟩ := ret_e hf
    exact v_lret C hr (by decide +kernel)
  · have hf := ite2_f hf h16
    refine v_aload_n C 1 1 rfl 19 rfl (by decide +kernel) ?_
    refine v_getIN C 2 2 rfl nin_2 (ns_kd_lt hk_a1 (by decide)) hk_a1 (by decide) (by decide) rfl 107 tw_90 rfl 22 rfl (by decide +kernel) ?_
    obtain ⟨r18, σ17, hcr18, hf⟩ := cl2_e hf
    refine v_cSN C [.int (σ14.1 a1 2)] [.long r13] (c_N_above G l σ14 (σ14.1 a1 2) hcr18) 76 1 tw_406 tw_847 tw_405 tw_1 hd_N_above rfl ⟨(Nat.le_of_ble_eq_true rfl), (Nat.le_of_ble_eq_true rfl)⟩ ⟨(Nat.le_of_ble_eq_true rfl), (Nat.le_of_ble_eq_true rfl)⟩ (Nat.le_of_ble_eq_true rfl) rfl 25 rfl (by decide +kernel) [.long r18, .long r13] rfl ?_
    refine v_ldc2 C 101 (-1) tw_826 28 rfl (by decide +kernel) ?_
    refine v_lxor C 29 rfl (by decide +kernel) ?_
    refine v_goto C 33 (by decide +kernel) ?_
    refine v_lor C 34 rfl (by decide +kernel) ?_
    obtain ⟨rfl, rfl⟩ := ret_e hf
    exact v_lret C hr (by decide +kernel)
theorem hd_StonePlan_helpersFor : (⟨"NinthStep$StonePlan", "helpersFor", "(LNinthStep$Mule;)J"⟩ : MethodName).cls = "NinthStep$StonePlan" ∧ (⟨"NinthStep$StonePlan", "helpersFor", "(LNinthStep$Mule;)J"⟩ : MethodName).cls ≠ "java/lang/invoke/MethodHandle" ∧ (⟨"NinthStep$StonePlan", "helpersFor", "(LNinthStep$Mule;)J"⟩ : MethodName).cls ≠ "java/lang/invoke/VarHandle" ∧ (parseMethodDescriptor (⟨"NinthStep$StonePlan", "helpersFor", "(LNinthStep$Mule;)J"⟩ : MethodName).desc).map (fun d => d.parameters.length) = some 1 := by decide +kernel
def g_StonePlan_isOneEnough_51  (σ : ns_St) (a0 : Nat) (x2 : Int64) : Option (Int32 × ns_St) := cl2 (g_N_firstOf σ x2) fun r19 σ18 => bnd (ns_pI σ18 a0 8 r19) fun σ20 => ite2 ((lg_cmp x2 (0 : Int64)) = 0) (some ((0 : Int32), σ20)) (some ((1 : Int32), σ20))
def g_StonePlan_isOneEnough_16  : Nat → ns_St → Nat → Nat → Int64 → Int32 → Option (Int32 × ns_St)
  | 0, _, _, _, _, _ => none
  | f + 1, σ, a0, a1, x2, x4 => ite2 ((σ.1 a1 2) ≤ x4) (g_StonePlan_isOneEnough_51 σ a0 x2) (ite2 ((lg_cmp x2 (0 : Int64)) = 0) (g_StonePlan_isOneEnough_51 σ a0 x2) (drf (σ.2.2 a1 1) fun b24 => grd (ns_kd b24 = 12) <| grd (ns_in x4 (ns_ln b24)) <| drf (σ.2.2 b24 (ns_ix x4)) fun b26 => grd (ns_kd b26 = 2) <| cl2 (g_StonePlan_helpersFor σ a0 b26) fun r28 σ27 => bnd (x2 &&& r28) fun z29 => bnd (x4 + 1) fun z30 => (g_StonePlan_isOneEnough_16 f) σ27 a0 a1 z29 z30))
def g_StonePlan_isOneEnough (σ : ns_St) (a0 : Nat) (a1 : Nat) : Option (Int32 × ns_St) := grd (ns_kd a0 = 4) <| grd (ns_kd a1 = 7) <| drf (σ.2.2 a1 0) fun b31 => grd (ns_kd b31 = 1) <| bnd (ns_pR σ a0 7 (some b31)) fun σ32 => cl2 (g_StonePlan_freePlaces σ32 a0) fun r34 σ33 => g_StonePlan_isOneEnough_16 ns_F σ33 a0 a1 r34 (0 : Int32)
theorem t_StonePlan_isOneEnough_51 (G : ns_G) (l : Launch) {p : Program} {e : Env} {s : State} {m : MethodId} {args : Array Value} {below : List Frame} {meth : Method} {c : Code} (C : ns_Cx G p s m args meth c prog_6_method_3_code "NinthStep$StonePlan" 5) (hr : meth.sig.returnType = (some .boolean)) {r : Int32} {σ' : ns_St}  (σ : ns_St) (a0 : Nat) (x2 : Int64) (hk_a0 : ns_kd a0 = 4) (hf : g_StonePlan_isOneEnough_51 σ a0 x2 = some (r, σ')) : VV G p l e { frames := 5, cells := 0, slots := 0, locals := 114 } s m args below meth c 5 0 0 (MQ below (ns_Qc G (some (.int r)) ns_N σ') args s 0 0 (ns_A G)) ns_N σ 51 [(0, .ref (G.1 + a0)), (2, .long x2)] [] := by
  unfold g_StonePlan_isOneEnough_51 at hf
  refine v_aload_n C 0 0 rfl 52 rfl (by decide +kernel) ?_
  refine v_lload_n C 2 1 rfl 53 rfl (by decide +kernel) ?_
  obtain ⟨r19, σ18, hcr19, hf⟩ := cl2_e hf
  refine v_cSN C [.long x2] [.ref (G.1 + a0)] (c_N_firstOf G l σ x2 hcr19) 65 1 tw_416 tw_848 tw_415 tw_1 hd_N_firstOf rfl ⟨(Nat.le_of_ble_eq_true rfl), (Nat.le_of_ble_eq_true rfl)⟩ ⟨(Nat.le_of_ble_eq_true rfl), (Nat.le_of_ble_eq_true rfl)⟩ (Nat.le_of_ble_eq_true rfl) rfl 56 rfl (by decide +kernel) [.int r19, .ref (G.1 + a0)] rfl ?_
  obtain ⟨σ20, hσ20, hf⟩ := bnd_e hf
  refine v_putI C 4 8 hσ20 rfl nin_4 ny_4 nty_4 nnm_4 (ns_kd_lt hk_a0 (by decide)) hk_a0 (by decide) (by decide) rfl rfl rfl rfl 69 tw_228 rfl 59 rfl (by decide +kernel) ?_
  refine v_lload_n C 2 1 rfl 60 rfl (by decide +kernel) ?_
  refine v_lconst C 0 (0) (by decide) 61 rfl (by decide +kernel) ?_
  refine v_lcmp C 62 rfl (by decide +kernel) ?_
  refine v_if_eq C 69 65 rfl (by decide +kernel) (fun h21 => ?_) (fun h21 => ?_)
  · have hf := ite2_t hf h21
    refine v_iconst C (0) (0) (by decide) 70 rfl (by decide +kernel) ?_
    obtain ⟨rfl, rfl⟩ := ret_e hf
    exact v_zret C hr rfl (by decide +kernel)
  · have hf := ite2_f hf h21
    refine v_iconst C (1) (1) (by decide) 66 rfl (by decide +kernel) ?_
    refine v_goto C 70 (by decide +kernel) ?_
    obtain ⟨rfl, rfl⟩ := ret_e hf
    exact v_zret C hr rfl (by decide +kernel)
theorem t_StonePlan_isOneEnough_16 (G : ns_G) (l : Launch) {p : Program} {e : Env} {s : State} {m : MethodId} {args : Array Value} {below : List Frame} {meth : Method} {c : Code} (C : ns_Cx G p s m args meth c prog_6_method_3_code "NinthStep$StonePlan" 5) (hr : meth.sig.returnType = (some .boolean)) {r : Int32} {σ' : ns_St}  : ∀ (f : Nat) (σ : ns_St) (a0 : Nat) (a1 : Nat) (x2 : Int64) (x4 : Int32) (hk_a0 : ns_kd a0 = 4) (hk_a1 : ns_kd a1 = 7), g_StonePlan_isOneEnough_16 f σ a0 a1 x2 x4 = some (r, σ') → VV G p l e { frames := 5, cells := 0, slots := 0, locals := 114 } s m args below meth c 5 0 0 (MQ below (ns_Qc G (some (.int r)) ns_N σ') args s 0 0 (ns_A G)) ns_N σ 16 [(0, .ref (G.1 + a0)), (1, .ref (G.1 + a1)), (2, .long x2), (4, .int x4)] [] := by
  intro f
  induction f with
  | zero =>
    intro σ a0 a1 x2 x4 hk_a0 hk_a1 hf
    cases hf
  | succ f ih =>
    intro σ a0 a1 x2 x4 hk_a0 hk_a1 hf
    rw [g_StonePlan_isOneEnough_16] at hf
    refine v_iload C 4 3 rfl 18 rfl (by decide +kernel) ?_
    refine v_aload_n C 1 1 rfl 19 rfl (by decide +kernel) ?_
    refine v_getIN C 7 2 rfl nin_7 (ns_kd_lt hk_a1 (by decide)) hk_a1 (by decide) (by decide) rfl 45 tw_132 rfl 22 rfl (by decide +kernel) ?_
    refine v_icmp_ge C 51 25 rfl (by decide +kernel) (fun h22 => ?_) (fun h22 => ?_)
    · have hf := ite2_t hf h22
      refine v_sub [0, 2] rfl ?_
      exact t_StonePlan_isOneEnough_51 G l C hr  σ a0 x2 hk_a0 hf
    · have hf := ite2_f hf h22
      refine v_lload_n C 2 2 rfl 26 rfl (by decide +kernel) ?_
      refine v_lconst C 0 (0) (by decide) 27 rfl (by decide +kernel) ?_
      refine v_lcmp C 28 rfl (by decide +kernel) ?_
      refine v_if_eq C 51 31 rfl (by decide +kernel) (fun h23 => ?_) (fun h23 => ?_)
      · have hf := ite2_t hf h23
        refine v_sub [0, 2] rfl ?_
        exact t_StonePlan_isOneEnough_51 G l C hr  σ a0 x2 hk_a0 hf
      · have hf := ite2_f hf h23
        refine v_lload_n C 2 2 rfl 32 rfl (by decide +kernel) ?_
        refine v_aload_n C 0 0 rfl 33 rfl (by decide +kernel) ?_
        refine v_aload_n C 1 1 rfl 34 rfl (by decide +kernel) ?_
        obtain ⟨b24, hb24, hf⟩ := drf_e hf
        obtain ⟨hk_b24, hf⟩ := grd_e hf
        refine v_getRN C 7 1 hb24 rfl nin_7 (ns_kd_lt hk_a1 (by decide)) hk_a1 (by decide) (by decide) rfl 49 tw_130 rfl 37 rfl (by decide +kernel) ?_
        refine v_iload C 4 3 rfl 39 rfl (by decide +kernel) ?_
        obtain ⟨hi25, hf⟩ := grd_e hf
        obtain ⟨b26, hb26, hf⟩ := drf_e hf
        obtain ⟨hk_b26, hf⟩ := grd_e hf
        refine v_aald C 12 (by decide) (ns_kd_lt hk_b24 (by decide)) hk_b24 hi25 hb26 40 rfl (by decide +kernel) ?_
        obtain ⟨r28, σ27, hcr28, hf⟩ := cl2_e hf
        refine v_cV C 4 rfl (ns_kd_lt hk_a0 (by decide)) hk_a0 (by decide) [.ref (G.1 + b26)] [.long x2] (c_StonePlan_helpersFor G l σ a0 b26 hcr28) 61 1 tw_830 tw_827 tw_829 ts_56 tw_7 hd_StonePlan_helpersFor rfl ⟨(Nat.le_of_ble_eq_true rfl), (Nat.le_of_ble_eq_true rfl)⟩ ⟨(Nat.le_of_ble_eq_true rfl), (Nat.le_of_ble_eq_true rfl)⟩ (Nat.le_of_ble_eq_true rfl) rfl 43 rfl (by decide +kernel) [.long r28, .long x2] rfl ?_
        refine v_land C 44 rfl (by decide +kernel) ?_
        obtain ⟨z29, hz29, hf⟩ := bnd_e hf
        refine v_nmJ hz29 ?_
        refine v_lstore_n C 2 [(2, .long z29), (0, .ref (G.1 + a0)), (1, .ref (G.1 + a1)), (4, .int x4)] (by decide) rfl 45 rfl (by decide +kernel) ?_
        obtain ⟨z30, hz30, hf⟩ := bnd_e hf
        refine v_iinc C 4 (1) 3 z30 rfl (by rw [hz30]; rfl) [(4, .int z30), (2, .long z29), (0, .ref (G.1 + a0)), (1, .ref (G.1 + a1))] (by decide) rfl 48 rfl (by decide +kernel) ?_
        refine v_goto C 16 (by decide +kernel) ?_
        refine v_sub [2, 3, 1, 0] rfl ?_
        exact ih σ27 a0 a1 z29 z30 hk_a0 hk_a1 hf
theorem c_StonePlan_isOneEnough (G : ns_G) (l : Launch) (σ : ns_St) (a0 : Nat) (a1 : Nat) {r : Int32} {σ' : ns_St} (hf : g_StonePlan_isOneEnough σ a0 a1 = some (r, σ')) : ns_ok G l ⟨"NinthStep$StonePlan", "isOneEnough", "(LNinthStep$World;)Z"⟩ prog_6_method_3_code 5 (some .boolean) 5 114 0 0 [.ref (G.1 + a0), .ref (G.1 + a1)] ns_N σ (some (.int r)) ns_N σ' := by
  refine v_open (by decide) (Nat.le_of_ble_eq_true rfl) rfl ?_
  intro p e s m below meth c C hr _
  have C : ns_Cx G p s m _ meth c prog_6_method_3_code "NinthStep$StonePlan" 5 := C
  unfold g_StonePlan_isOneEnough at hf
  obtain ⟨hk_a0, hf⟩ := grd_e hf
  obtain ⟨hk_a1, hf⟩ := grd_e hf
  refine v_aload_n C 0 0 rfl 1 rfl (by decide +kernel) ?_
  refine v_aload_n C 1 1 rfl 2 rfl (by decide +kernel) ?_
  obtain ⟨b31, hb31, hf⟩ := drf_e hf
  obtain ⟨hk_b31, hf⟩ := grd_e hf
  refine v_getRN C 7 0 hb31 rfl nin_7 (ns_kd_lt hk_a1 (by decide)) hk_a1 (by decide) (by decide) rfl 38 tw_126 rfl 5 rfl (by decide +kernel) ?_
  obtain ⟨σ32, hσ32, hf⟩ := bnd_e hf
  refine v_putR C 4 7 hσ32 rfl nin_4 ny_4 nty_4 nnm_4 (ns_kd_lt hk_a0 (by decide)) hk_a0 (by decide) (by decide) rfl rfl rfl rfl 44 tw_227 rfl 8 rfl (by decide +kernel) ?_
  refine v_aload_n C 0 0 rfl 9 rfl (by decide +kernel) ?_
  obtain ⟨r34, σ33, hcr34, hf⟩ := cl2_e hf
  refine v_cV C 4 rfl (ns_kd_lt hk_a0 (by decide)) hk_a0 (by decide) [] [] (c_StonePlan_freePlaces G l σ32 a0 hcr34) 57 0 tw_823 tw_820 tw_822 ts_55 tw_7 hd_StonePlan_freePlaces rfl ⟨(Nat.le_of_ble_eq_true rfl), (Nat.le_of_ble_eq_true rfl)⟩ ⟨(Nat.le_of_ble_eq_true rfl), (Nat.le_of_ble_eq_true rfl)⟩ (Nat.le_of_ble_eq_true rfl) rfl 12 rfl (by decide +kernel) [.long r34] rfl ?_
  refine v_lstore_n C 2 [(2, .long r34), (0, .ref (G.1 + a0)), (1, .ref (G.1 + a1))] (by decide) rfl 13 rfl (by decide +kernel) ?_
  refine v_iconst C (0) (0) (by decide) 14 rfl (by decide +kernel) ?_
  refine v_istore C 4 [(4, .int (0 : Int32)), (2, .long r34), (0, .ref (G.1 + a0)), (1, .ref (G.1 + a1))] (by decide) rfl 16 rfl (by decide +kernel) ?_
  refine v_sub [2, 3, 1, 0] rfl ?_
  exact t_StonePlan_isOneEnough_16 G l C hr  ns_F σ33 a0 a1 r34 (0 : Int32) hk_a0 hk_a1 hf
theorem hd_StonePlan_isOneEnough : (⟨"NinthStep$StonePlan", "isOneEnough", "(LNinthStep$World;)Z"⟩ : MethodName).cls = "NinthStep$StonePlan" ∧ (⟨"NinthStep$StonePlan", "isOneEnough", "(LNinthStep$World;)Z"⟩ : MethodName).cls ≠ "java/lang/invoke/MethodHandle" ∧ (⟨"NinthStep$StonePlan", "isOneEnough", "(LNinthStep$World;)Z"⟩ : MethodName).cls ≠ "java/lang/invoke/VarHandle" ∧ (parseMethodDescriptor (⟨"NinthStep$StonePlan", "isOneEnough", "(LNinthStep$World;)Z"⟩ : MethodName).desc).map (fun d => d.parameters.length) = some 1 := by decide +kernel
