def g_M_stepped_98  (σ : ns_St) (a0 : Nat) (x2 : Int32) : Option (Int32 × ns_St) := ite2 ((σ.1 a0 25) = (4 : Int32)) (cl2 (g_M_isThere σ a0 (σ.1 a0 27) (2 : Int32)) fun r30 σ29 => ite2 (r30 = 0) (grd (x2 = 0 ∨ x2 = 1) <| some (x2, σ29)) (cl2 (g_Math_min σ29 (64 : Int32) ((2 : Int32) * (σ29.1 a0 26))) fun r34 σ33 => bnd (ns_pI σ33 a0 26 r34) fun σ35 => grd (x2 = 0 ∨ x2 = 1) <| some (x2, σ35))) (grd (x2 = 0 ∨ x2 = 1) <| some (x2, σ))
def g_M_stepped_66  (σ : ns_St) (a0 : Nat) : Option (Int32 × ns_St) := cl2 (g_M_stopsHere σ a0) fun r38 σ37 => ite2 ((σ37.1 a0 25) = (5 : Int32)) (cl2 (g_M_isThere σ37 a0 (σ37.1 a0 27) (2 : Int32)) fun r41 σ40 => ite2 (r41 = 0) (g_M_stepped_98 σ40 a0 r38) (bnd (ns_pI σ40 a0 28 (0 : Int32)) fun σ43 => g_M_stepped_98 σ43 a0 (1 : Int32))) (g_M_stepped_98 σ37 a0 r38)
def g_M_stepped_48  (σ : ns_St) (s0 : Nat) (s1 : Int32) (s2 : Int32) (a0 : Nat) (x1 : Int32) : Option (Int32 × ns_St) := bnd (ns_pI σ s0 28 (s1 + s2)) fun σ44 => ite2 (x1 = 0) (g_M_stepped_66 σ44 a0) (bnd (ns_pI σ44 a0 28 ((σ44.1 a0 28) + (1 : Int32))) fun σ46 => g_M_stepped_66 σ46 a0)
def g_M_stepped_47  (σ : ns_St) (s0 : Nat) (s1 : Int32) (a0 : Nat) (x1 : Int32) : Option (Int32 × ns_St) := g_M_stepped_48 σ s0 s1 (1 : Int32) a0 x1
def g_M_stepped (σ : ns_St) (a0 : Nat) (x1 : Int32) : Option (Int32 × ns_St) := grd (ns_kd a0 = 9) <| bnd (ns_pI σ a0 27 ((σ.1 a0 27) + (1 : Int32))) fun σ47 => cl2 (g_M_isThere σ47 a0 (σ47.1 a0 27) (1 : Int32)) fun r49 σ48 => ite2 (r49 = 0) (g_M_stepped_47 σ48 a0 (σ47.1 a0 28) a0 x1) (ite2 ((σ48.1 a0 25) = (2 : Int32)) (g_M_stepped_47 σ48 a0 (σ47.1 a0 28) a0 x1) (ite2 ((σ48.1 a0 25) = (5 : Int32)) (g_M_stepped_47 σ48 a0 (σ47.1 a0 28) a0 x1) (g_M_stepped_48 σ48 a0 (σ47.1 a0 28) (2 : Int32) a0 x1)))
theorem t_M_stepped_98 (G : ns_G) (l : Launch) {p : Program} {e : Env} {s : State} {m : MethodId} {args : Array Value} {below : List Frame} {meth : Method} {c : Code} (C : ns_Cx G p s m args meth c prog_11_method_42_code "NinthStepModel" 3) (hr : meth.sig.returnType = (some .boolean)) {r : Int32} {σ' : ns_St}  (σ : ns_St) (a0 : Nat) (x2 : Int32) (hk_a0 : ns_kd a0 = 9) (hf : g_M_stepped_98 σ a0 x2 = some (r, σ')) : VV G p l e { frames := 2, cells := 0, slots := 0, locals := 42 } s m args below meth c 3 0 0 (MQ below (ns_Qc G (some (.int r)) ns_N σ') args s 0 0 (ns_A G)) ns_N σ 98 [(0, .ref (G.1 + a0)), (2, .int x2)] [] := by
  unfold g_M_stepped_98 at hf
  refine v_aload_n C 0 0 rfl 99 rfl (by decide +kernel) ?_
  refine v_getI C 9 25 rfl nin_9 (ns_kd_lt hk_a0 (by decide)) hk_a0 (by decide) (by decide) rfl 185 tw_1000 rfl 102 rfl (by decide +kernel) ?_
  refine v_iconst C (4) (4) (by decide) 103 rfl (by decide +kernel) ?_
  refine v_icmp_ne C 133 106 rfl (by decide +kernel) (fun h27 => ?_) (fun h27 => ?_)
  · have hf := ite2_f hf h27
    refine v_iload_n C 2 1 rfl 134 rfl (by decide +kernel) ?_
    obtain ⟨hz28, hf⟩ := grd_e hf
    obtain ⟨rfl, rfl⟩ := ret_e hf
    exact v_zret C hr (ns_z01 hz28) (by decide +kernel)
  · have hf := ite2_t hf h27
    refine v_aload_n C 0 0 rfl 107 rfl (by decide +kernel) ?_
    refine v_aload_n C 0 0 rfl 108 rfl (by decide +kernel) ?_
    refine v_getI C 9 27 rfl nin_9 (ns_kd_lt hk_a0 (by decide)) hk_a0 (by decide) (by decide) rfl 191 tw_1002 rfl 111 rfl (by decide +kernel) ?_
    refine v_iconst C (2) (2) (by decide) 112 rfl (by decide +kernel) ?_
    obtain ⟨r30, σ29, hcr30, hf⟩ := cl2_e hf
    refine v_cV C 9 rfl (ns_kd_lt hk_a0 (by decide)) hk_a0 (by decide) [.int (σ.1 a0 27), .int (2 : Int32)] [] (c_M_isThere G l σ a0 (σ.1 a0 27) (2 : Int32) hcr30) 87 2 tw_1130 tw_1127 tw_1129 ts_79 tw_10 hd_M_isThere rfl ⟨(Nat.le_of_ble_eq_true rfl), (Nat.le_of_ble_eq_true rfl)⟩ ⟨(Nat.le_of_ble_eq_true rfl), (Nat.le_of_ble_eq_true rfl)⟩ (Nat.le_of_ble_eq_true rfl) rfl 115 rfl (by decide +kernel) [.int r30] rfl ?_
    refine v_if_eq C 133 118 rfl (by decide +kernel) (fun h31 => ?_) (fun h31 => ?_)
    · have hf := ite2_t hf h31
      refine v_iload_n C 2 1 rfl 134 rfl (by decide +kernel) ?_
      obtain ⟨hz32, hf⟩ := grd_e hf
      obtain ⟨rfl, rfl⟩ := ret_e hf
      exact v_zret C hr (ns_z01 hz32) (by decide +kernel)
    · have hf := ite2_f hf h31
      refine v_aload_n C 0 0 rfl 119 rfl (by decide +kernel) ?_
      refine v_bipush C (64) (64) (by decide) 121 rfl (by decide +kernel) ?_
      refine v_iconst C (2) (2) (by decide) 122 rfl (by decide +kernel) ?_
      refine v_aload_n C 0 0 rfl 123 rfl (by decide +kernel) ?_
      refine v_getI C 9 26 rfl nin_9 (ns_kd_lt hk_a0 (by decide)) hk_a0 (by decide) (by decide) rfl 188 tw_1001 rfl 126 rfl (by decide +kernel) ?_
      refine v_imul C 127 rfl (by decide +kernel) ?_
      obtain ⟨r34, σ33, hcr34, hf⟩ := cl2_e hf
      refine v_cS C [.int (64 : Int32), .int ((2 : Int32) * (σ29.1 a0 26))] [.ref (G.1 + a0)] (c_Math_min G l σ29 (64 : Int32) ((2 : Int32) * (σ29.1 a0 26)) hcr34) 200 2 tw_663 tw_1251 tw_662 tw_18 hd_Math_min rfl ⟨(Nat.le_of_ble_eq_true rfl), (Nat.le_of_ble_eq_true rfl)⟩ ⟨(Nat.le_of_ble_eq_true rfl), (Nat.le_of_ble_eq_true rfl)⟩ (Nat.le_of_ble_eq_true rfl) rfl 130 rfl (by decide +kernel) [.int r34, .ref (G.1 + a0)] rfl ?_
      obtain ⟨σ35, hσ35, hf⟩ := bnd_e hf
      refine v_putI C 9 26 hσ35 rfl nin_9 ny_9 nty_9 nnm_9 (ns_kd_lt hk_a0 (by decide)) hk_a0 (by decide) (by decide) rfl rfl rfl rfl 188 tw_1001 rfl 133 rfl (by decide +kernel) ?_
      refine v_iload_n C 2 1 rfl 134 rfl (by decide +kernel) ?_
      obtain ⟨hz36, hf⟩ := grd_e hf
      obtain ⟨rfl, rfl⟩ := ret_e hf
      exact v_zret C hr (ns_z01 hz36) (by decide +kernel)
theorem t_M_stepped_66 (G : ns_G) (l : Launch) {p : Program} {e : Env} {s : State} {m : MethodId} {args : Array Value} {below : List Frame} {meth : Method} {c : Code} (C : ns_Cx G p s m args meth c prog_11_method_42_code "NinthStepModel" 3) (hr : meth.sig.returnType = (some .boolean)) {r : Int32} {σ' : ns_St}  (σ : ns_St) (a0 : Nat) (hk_a0 : ns_kd a0 = 9) (hf : g_M_stepped_66 σ a0 = some (r, σ')) : VV G p l e { frames := 2, cells := 0, slots := 0, locals := 42 } s m args below meth c 3 0 0 (MQ below (ns_Qc G (some (.int r)) ns_N σ') args s 0 0 (ns_A G)) ns_N σ 66 [(0, .ref (G.1 + a0))] [] := by
  unfold g_M_stepped_66 at hf
  refine v_aload_n C 0 0 rfl 67 rfl (by decide +kernel) ?_
  obtain ⟨r38, σ37, hcr38, hf⟩ := cl2_e hf
  refine v_cV C 9 rfl (ns_kd_lt hk_a0 (by decide)) hk_a0 (by decide) [] [] (c_M_stopsHere G l σ a0 hcr38) 197 0 tw_1250 tw_1247 tw_1249 ts_93 tw_10 hd_M_stopsHere rfl ⟨(Nat.le_of_ble_eq_true rfl), (Nat.le_of_ble_eq_true rfl)⟩ ⟨(Nat.le_of_ble_eq_true rfl), (Nat.le_of_ble_eq_true rfl)⟩ (Nat.le_of_ble_eq_true rfl) rfl 70 rfl (by decide +kernel) [.int r38] rfl ?_
  refine v_istore_n C 2 [(2, .int r38), (0, .ref (G.1 + a0))] (by decide) rfl 71 rfl (by decide +kernel) ?_
  refine v_aload_n C 0 1 rfl 72 rfl (by decide +kernel) ?_
  refine v_getI C 9 25 rfl nin_9 (ns_kd_lt hk_a0 (by decide)) hk_a0 (by decide) (by decide) rfl 185 tw_1000 rfl 75 rfl (by decide +kernel) ?_
  refine v_iconst C (5) (5) (by decide) 76 rfl (by decide +kernel) ?_
  refine v_icmp_ne C 98 79 rfl (by decide +kernel) (fun h39 => ?_) (fun h39 => ?_)
  · have hf := ite2_f hf h39
    refine v_sub [1, 0] rfl ?_
    exact t_M_stepped_98 G l C hr  σ37 a0 r38 hk_a0 hf
  · have hf := ite2_t hf h39
    refine v_aload_n C 0 1 rfl 80 rfl (by decide +kernel) ?_
    refine v_aload_n C 0 1 rfl 81 rfl (by decide +kernel) ?_
    refine v_getI C 9 27 rfl nin_9 (ns_kd_lt hk_a0 (by decide)) hk_a0 (by decide) (by decide) rfl 191 tw_1002 rfl 84 rfl (by decide +kernel) ?_
    refine v_iconst C (2) (2) (by decide) 85 rfl (by decide +kernel) ?_
    obtain ⟨r41, σ40, hcr41, hf⟩ := cl2_e hf
    refine v_cV C 9 rfl (ns_kd_lt hk_a0 (by decide)) hk_a0 (by decide) [.int (σ37.1 a0 27), .int (2 : Int32)] [] (c_M_isThere G l σ37 a0 (σ37.1 a0 27) (2 : Int32) hcr41) 87 2 tw_1130 tw_1127 tw_1129 ts_79 tw_10 hd_M_isThere rfl ⟨(Nat.le_of_ble_eq_true rfl), (Nat.le_of_ble_eq_true rfl)⟩ ⟨(Nat.le_of_ble_eq_true rfl), (Nat.le_of_ble_eq_true rfl)⟩ (Nat.le_of_ble_eq_true rfl) rfl 88 rfl (by decide +kernel) [.int r41] rfl ?_
    refine v_if_eq C 98 91 rfl (by decide +kernel) (fun h42 => ?_) (fun h42 => ?_)
    · have hf := ite2_t hf h42
      refine v_sub [1, 0] rfl ?_
      exact t_M_stepped_98 G l C hr  σ40 a0 r38 hk_a0 hf
    · have hf := ite2_f hf h42
      refine v_aload_n C 0 1 rfl 92 rfl (by decide +kernel) ?_
      refine v_iconst C (0) (0) (by decide) 93 rfl (by decide +kernel) ?_
      obtain ⟨σ43, hσ43, hf⟩ := bnd_e hf
      refine v_putI C 9 28 hσ43 rfl nin_9 ny_9 nty_9 nnm_9 (ns_kd_lt hk_a0 (by decide)) hk_a0 (by decide) (by decide) rfl rfl rfl rfl 194 tw_1003 rfl 96 rfl (by decide +kernel) ?_
      refine v_iconst C (1) (1) (by decide) 97 rfl (by decide +kernel) ?_
      refine v_istore_n C 2 [(2, .int (1 : Int32)), (0, .ref (G.1 + a0))] (by decide) rfl 98 rfl (by decide +kernel) ?_
      refine v_sub [1, 0] rfl ?_
      exact t_M_stepped_98 G l C hr  σ43 a0 (1 : Int32) hk_a0 hf
theorem t_M_stepped_48 (G : ns_G) (l : Launch) {p : Program} {e : Env} {s : State} {m : MethodId} {args : Array Value} {below : List Frame} {meth : Method} {c : Code} (C : ns_Cx G p s m args meth c prog_11_method_42_code "NinthStepModel" 3) (hr : meth.sig.returnType = (some .boolean)) {r : Int32} {σ' : ns_St}  (σ : ns_St) (s0 : Nat) (s1 : Int32) (s2 : Int32) (a0 : Nat) (x1 : Int32) (hk_s0 : ns_kd s0 = 9) (hk_a0 : ns_kd a0 = 9) (hf : g_M_stepped_48 σ s0 s1 s2 a0 x1 = some (r, σ')) : VV G p l e { frames := 2, cells := 0, slots := 0, locals := 42 } s m args below meth c 3 0 0 (MQ below (ns_Qc G (some (.int r)) ns_N σ') args s 0 0 (ns_A G)) ns_N σ 48 [(0, .ref (G.1 + a0)), (1, .int x1)] [.int s2, .int s1, .ref (G.1 + s0)] := by
  unfold g_M_stepped_48 at hf
  refine v_iadd C 49 rfl (by decide +kernel) ?_
  obtain ⟨σ44, hσ44, hf⟩ := bnd_e hf
  refine v_putI C 9 28 hσ44 rfl nin_9 ny_9 nty_9 nnm_9 (ns_kd_lt hk_s0 (by decide)) hk_s0 (by decide) (by decide) rfl rfl rfl rfl 194 tw_1003 rfl 52 rfl (by decide +kernel) ?_
  refine v_iload_n C 1 1 rfl 53 rfl (by decide +kernel) ?_
  refine v_if_eq C 66 56 rfl (by decide +kernel) (fun h45 => ?_) (fun h45 => ?_)
  · have hf := ite2_t hf h45
    refine v_sub [0] rfl ?_
    exact t_M_stepped_66 G l C hr  σ44 a0 hk_a0 hf
  · have hf := ite2_f hf h45
    refine v_aload_n C 0 0 rfl 57 rfl (by decide +kernel) ?_
    refine v_dup C rfl 58 rfl (by decide +kernel) ?_
    refine v_getI C 9 28 rfl nin_9 (ns_kd_lt hk_a0 (by decide)) hk_a0 (by decide) (by decide) rfl 194 tw_1003 rfl 61 rfl (by decide +kernel) ?_
    refine v_iconst C (1) (1) (by decide) 62 rfl (by decide +kernel) ?_
    refine v_iadd C 63 rfl (by decide +kernel) ?_
    obtain ⟨σ46, hσ46, hf⟩ := bnd_e hf
    refine v_putI C 9 28 hσ46 rfl nin_9 ny_9 nty_9 nnm_9 (ns_kd_lt hk_a0 (by decide)) hk_a0 (by decide) (by decide) rfl rfl rfl rfl 194 tw_1003 rfl 66 rfl (by decide +kernel) ?_
    refine v_sub [0] rfl ?_
    exact t_M_stepped_66 G l C hr  σ46 a0 hk_a0 hf
theorem t_M_stepped_47 (G : ns_G) (l : Launch) {p : Program} {e : Env} {s : State} {m : MethodId} {args : Array Value} {below : List Frame} {meth : Method} {c : Code} (C : ns_Cx G p s m args meth c prog_11_method_42_code "NinthStepModel" 3) (hr : meth.sig.returnType = (some .boolean)) {r : Int32} {σ' : ns_St}  (σ : ns_St) (s0 : Nat) (s1 : Int32) (a0 : Nat) (x1 : Int32) (hk_s0 : ns_kd s0 = 9) (hk_a0 : ns_kd a0 = 9) (hf : g_M_stepped_47 σ s0 s1 a0 x1 = some (r, σ')) : VV G p l e { frames := 2, cells := 0, slots := 0, locals := 42 } s m args below meth c 3 0 0 (MQ below (ns_Qc G (some (.int r)) ns_N σ') args s 0 0 (ns_A G)) ns_N σ 47 [(0, .ref (G.1 + a0)), (1, .int x1)] [.int s1, .ref (G.1 + s0)] := by
  unfold g_M_stepped_47 at hf
  refine v_iconst C (1) (1) (by decide) 48 rfl (by decide +kernel) ?_
  exact t_M_stepped_48 G l C hr  σ s0 s1 (1 : Int32) a0 x1 hk_s0 hk_a0 hf
theorem c_M_stepped (G : ns_G) (l : Launch) (σ : ns_St) (a0 : Nat) (x1 : Int32) {r : Int32} {σ' : ns_St} (hf : g_M_stepped σ a0 x1 = some (r, σ')) : ns_ok G l ⟨"NinthStepModel", "stepped", "(Z)Z"⟩ prog_11_method_42_code 3 (some .boolean) 2 42 0 0 [.ref (G.1 + a0), .int x1] ns_N σ (some (.int r)) ns_N σ' := by
  refine v_open (by decide) (Nat.le_of_ble_eq_true rfl) rfl ?_
  intro p e s m below meth c C hr _
  have C : ns_Cx G p s m _ meth c prog_11_method_42_code "NinthStepModel" 3 := C
  unfold g_M_stepped at hf
  obtain ⟨hk_a0, hf⟩ := grd_e hf
  refine v_aload_n C 0 0 rfl 1 rfl (by decide +kernel) ?_
  refine v_dup C rfl 2 rfl (by decide +kernel) ?_
  refine v_getI C 9 27 rfl nin_9 (ns_kd_lt hk_a0 (by decide)) hk_a0 (by decide) (by decide) rfl 191 tw_1002 rfl 5 rfl (by decide +kernel) ?_
  refine v_iconst C (1) (1) (by decide) 6 rfl (by decide +kernel) ?_
  refine v_iadd C 7 rfl (by decide +kernel) ?_
  obtain ⟨σ47, hσ47, hf⟩ := bnd_e hf
  refine v_putI C 9 27 hσ47 rfl nin_9 ny_9 nty_9 nnm_9 (ns_kd_lt hk_a0 (by decide)) hk_a0 (by decide) (by decide) rfl rfl rfl rfl 191 tw_1002 rfl 10 rfl (by decide +kernel) ?_
  refine v_aload_n C 0 0 rfl 11 rfl (by decide +kernel) ?_
  refine v_dup C rfl 12 rfl (by decide +kernel) ?_
  refine v_getI C 9 28 rfl nin_9 (ns_kd_lt hk_a0 (by decide)) hk_a0 (by decide) (by decide) rfl 194 tw_1003 rfl 15 rfl (by decide +kernel) ?_
  refine v_aload_n C 0 0 rfl 16 rfl (by decide +kernel) ?_
  refine v_aload_n C 0 0 rfl 17 rfl (by decide +kernel) ?_
  refine v_getI C 9 27 rfl nin_9 (ns_kd_lt hk_a0 (by decide)) hk_a0 (by decide) (by decide) rfl 191 tw_1002 rfl 20 rfl (by decide +kernel) ?_
  refine v_iconst C (1) (1) (by decide) 21 rfl (by decide +kernel) ?_
  obtain ⟨r49, σ48, hcr49, hf⟩ := cl2_e hf
  refine v_cV C 9 rfl (ns_kd_lt hk_a0 (by decide)) hk_a0 (by decide) [.int (σ47.1 a0 27), .int (1 : Int32)] [.int (σ47.1 a0 28), .ref (G.1 + a0)] (c_M_isThere G l σ47 a0 (σ47.1 a0 27) (1 : Int32) hcr49) 87 2 tw_1130 tw_1127 tw_1129 ts_79 tw_10 hd_M_isThere rfl ⟨(Nat.le_of_ble_eq_true rfl), (Nat.le_of_ble_eq_true rfl)⟩ ⟨(Nat.le_of_ble_eq_true rfl), (Nat.le_of_ble_eq_true rfl)⟩ (Nat.le_of_ble_eq_true rfl) rfl 24 rfl (by decide +kernel) [.int r49, .int (σ47.1 a0 28), .ref (G.1 + a0)] rfl ?_
  refine v_if_eq C 47 27 rfl (by decide +kernel) (fun h50 => ?_) (fun h50 => ?_)
  · have hf := ite2_t hf h50
    exact t_M_stepped_47 G l C hr  σ48 a0 (σ47.1 a0 28) a0 x1 hk_a0 hk_a0 hf
  · have hf := ite2_f hf h50
    refine v_aload_n C 0 0 rfl 28 rfl (by decide +kernel) ?_
    refine v_getI C 9 25 rfl nin_9 (ns_kd_lt hk_a0 (by decide)) hk_a0 (by decide) (by decide) rfl 185 tw_1000 rfl 31 rfl (by decide +kernel) ?_
    refine v_iconst C (2) (2) (by decide) 32 rfl (by decide +kernel) ?_
    refine v_icmp_eq C 47 35 rfl (by decide +kernel) (fun h51 => ?_) (fun h51 => ?_)
    · have hf := ite2_t hf h51
      exact t_M_stepped_47 G l C hr  σ48 a0 (σ47.1 a0 28) a0 x1 hk_a0 hk_a0 hf
    · have hf := ite2_f hf h51
      refine v_aload_n C 0 0 rfl 36 rfl (by decide +kernel) ?_
      refine v_getI C 9 25 rfl nin_9 (ns_kd_lt hk_a0 (by decide)) hk_a0 (by decide) (by decide) rfl 185 tw_1000 rfl 39 rfl (by decide +kernel) ?_
      refine v_iconst C (5) (5) (by decide) 40 rfl (by decide +kernel) ?_
      refine v_icmp_eq C 47 43 rfl (by decide +kernel) (fun h52 => ?_) (fun h52 => ?_)
      · have hf := ite2_t hf h52
        exact t_M_stepped_47 G l C hr  σ48 a0 (σ47.1 a0 28) a0 x1 hk_a0 hk_a0 hf
      · have hf := ite2_f hf h52
        refine v_iconst C (2) (2) (by decide) 44 rfl (by decide +kernel) ?_
        refine v_goto C 48 (by decide +kernel) ?_
        exact t_M_stepped_48 G l C hr  σ48 a0 (σ47.1 a0 28) (2 : Int32) a0 x1 hk_a0 hk_a0 hf
theorem hd_M_stepped : (⟨"NinthStepModel", "stepped", "(Z)Z"⟩ : MethodName).cls = "NinthStepModel" ∧ (⟨"NinthStepModel", "stepped", "(Z)Z"⟩ : MethodName).cls ≠ "java/lang/invoke/MethodHandle" ∧ (⟨"NinthStepModel", "stepped", "(Z)Z"⟩ : MethodName).cls ≠ "java/lang/invoke/VarHandle" ∧ (parseMethodDescriptor (⟨"NinthStepModel", "stepped", "(Z)Z"⟩ : MethodName).desc).map (fun d => d.parameters.length) = some 1 := by decide +kernel
def g_M_stops_27  : Nat → ns_St → Nat → Int32 → Int32 → Option (Int32 × ns_St)
  | 0, _, _, _, _ => none
  | f + 1, σ, a0, x2, x3 => ite2 ((σ.1 a0 3) ≤ (σ.1 a0 27)) (ite2 (x2 = (-1 : Int32)) (some (x3, σ)) (cl2 (g_M_no σ a0 (-5 : Int32)) fun r23 σ22 => some (r23, σ22))) (cl2 (g_M_stepped σ a0 (0 : Int32)) fun r25 σ24 => ite2 (r25 = 0) ((g_M_stops_27 f) σ24 a0 x2 x3) (ite2 (x3 = x2) (some ((σ24.1 a0 27), σ24)) (bnd (x3 + 1) fun z28 => (g_M_stops_27 f) σ24 a0 x2 z28)))
def g_M_stops (σ : ns_St) (a0 : Nat) (x1 : Int32) (x2 : Int32) : Option (Int32 × ns_St) := grd (ns_kd a0 = 9) <| cl2 (g_M_isMule σ a0 x1) fun r30 σ29 => ite2 (r30 = 0) (cl2 (g_M_no σ29 a0 (-2 : Int32)) fun r33 σ32 => some (r33, σ32)) (ite2 ((-1 : Int32) ≤ x2) (cl2 (g_M_begins σ29 a0 x1) fun r36 σ35 => g_M_stops_27 ns_F σ35 a0 x2 (0 : Int32)) (cl2 (g_M_no σ29 a0 (-2 : Int32)) fun r38 σ37 => some (r38, σ37)))
theorem t_M_stops_27 (G : ns_G) (l : Launch) {p : Program} {e : Env} {s : State} {m : MethodId} {args : Array Value} {below : List Frame} {meth : Method} {c : Code} (C : ns_Cx G p s m args meth c prog_11_method_43_code "NinthStepModel" 4) (hr : meth.sig.returnType = (some .int)) {r : Int32} {σ' : ns_St}  : ∀ (f : Nat) (σ : ns_St) (a0 : Nat) (x2 : Int32) (x3 : Int32) (hk_a0 : ns_kd a0 = 9), g_M_stops_27 f σ a0 x2 x3 = some (r, σ') → VV G p l e { frames := 3, cells := 0, slots := 0, locals := 64 } s m args below meth c 4 0 0 (MQ below (ns_Qc G (some (.int r)) ns_N σ') args s 0 0 (ns_A G)) ns_N σ 27 [(0, .ref (G.1 + a0)), (2, .int x2), (3, .int x3)] [] := by
  intro f
  induction f with
  | zero =>
    intro σ a0 x2 x3 hk_a0 hf
    cases hf
  | succ f ih =>
    intro σ a0 x2 x3 hk_a0 hf
    rw [g_M_stops_27] at hf
    refine v_aload_n C 0 0 rfl 28 rfl (by decide +kernel) ?_
    refine v_getI C 9 27 rfl nin_9 (ns_kd_lt hk_a0 (by decide)) hk_a0 (by decide) (by decide) rfl 191 tw_1002 rfl 31 rfl (by decide +kernel) ?_
    refine v_aload_n C 0 0 rfl 32 rfl (by decide +kernel) ?_
    refine v_getI C 9 3 rfl nin_9 (ns_kd_lt hk_a0 (by decide)) hk_a0 (by decide) (by decide) rfl 59 tw_978 rfl 35 rfl (by decide +kernel) ?_
    refine v_icmp_ge C 65 38 rfl (by decide +kernel) (fun h20 => ?_) (fun h20 => ?_)
    · have hf := ite2_t hf h20
      refine v_iload_n C 2 1 rfl 66 rfl (by decide +kernel) ?_
      refine v_iconst C (-1) (-1) (by decide) 67 rfl (by decide +kernel) ?_
      refine v_icmp_ne C 74 70 rfl (by decide +kernel) (fun h21 => ?_) (fun h21 => ?_)
      · have hf := ite2_f hf h21
        refine v_aload_n C 0 0 rfl 75 rfl (by decide +kernel) ?_
        refine v_bipush C (-5) (-5) (by decide) 77 rfl (by decide +kernel) ?_
        obtain ⟨r23, σ22, hcr23, hf⟩ := cl2_e hf
        refine v_cV C 9 rfl (ns_kd_lt hk_a0 (by decide)) hk_a0 (by decide) [.int (-5 : Int32)] [] (c_M_no G l σ a0 (-5 : Int32) hcr23) 73 1 tw_1079 tw_1076 tw_1078 ts_73 tw_10 hd_M_no rfl ⟨(Nat.le_of_ble_eq_true rfl), (Nat.le_of_ble_eq_true rfl)⟩ ⟨(Nat.le_of_ble_eq_true rfl), (Nat.le_of_ble_eq_true rfl)⟩ (Nat.le_of_ble_eq_true rfl) rfl 80 rfl (by decide +kernel) [.int r23] rfl ?_
        obtain ⟨rfl, rfl⟩ := ret_e hf
        exact v_iret C hr (by decide +kernel)
      · have hf := ite2_t hf h21
        refine v_iload_n C 3 2 rfl 71 rfl (by decide +kernel) ?_
        refine v_goto C 80 (by decide +kernel) ?_
        obtain ⟨rfl, rfl⟩ := ret_e hf
        exact v_iret C hr (by decide +kernel)
    · have hf := ite2_f hf h20
      refine v_aload_n C 0 0 rfl 39 rfl (by decide +kernel) ?_
      refine v_iconst C (0) (0) (by decide) 40 rfl (by decide +kernel) ?_
      obtain ⟨r25, σ24, hcr25, hf⟩ := cl2_e hf
      refine v_cV C 9 rfl (ns_kd_lt hk_a0 (by decide)) hk_a0 (by decide) [.int (0 : Int32)] [] (c_M_stepped G l σ a0 (0 : Int32) hcr25) 208 1 tw_1246 tw_1243 tw_1245 ts_92 tw_10 hd_M_stepped rfl ⟨(Nat.le_of_ble_eq_true rfl), (Nat.le_of_ble_eq_true rfl)⟩ ⟨(Nat.le_of_ble_eq_true rfl), (Nat.le_of_ble_eq_true rfl)⟩ (Nat.le_of_ble_eq_true rfl) rfl 43 rfl (by decide +kernel) [.int r25] rfl ?_
      refine v_if_ne C 49 46 rfl (by decide +kernel) (fun h26 => ?_) (fun h26 => ?_)
      · have hf := ite2_f hf h26
        refine v_iload_n C 3 2 rfl 50 rfl (by decide +kernel) ?_
        refine v_iload_n C 2 1 rfl 51 rfl (by decide +kernel) ?_
        refine v_icmp_ne C 59 54 rfl (by decide +kernel) (fun h27 => ?_) (fun h27 => ?_)
        · have hf := ite2_f hf h27
          obtain ⟨z28, hz28, hf⟩ := bnd_e hf
          refine v_iinc C 3 (1) 2 z28 rfl (by rw [hz28]; rfl) [(3, .int z28), (0, .ref (G.1 + a0)), (2, .int x2)] (by decide) rfl 62 rfl (by decide +kernel) ?_
          refine v_goto C 27 (by decide +kernel) ?_
          refine v_sub [1, 2, 0] rfl ?_
          exact ih σ24 a0 x2 z28 hk_a0 hf
        · have hf := ite2_t hf h27
          refine v_aload_n C 0 0 rfl 55 rfl (by decide +kernel) ?_
          refine v_getI C 9 27 rfl nin_9 (ns_kd_lt hk_a0 (by decide)) hk_a0 (by decide) (by decide) rfl 191 tw_1002 rfl 58 rfl (by decide +kernel) ?_
          obtain ⟨rfl, rfl⟩ := ret_e hf
          exact v_iret C hr (by decide +kernel)
      · have hf := ite2_t hf h26
        refine v_goto C 27 (by decide +kernel) ?_
        exact ih σ24 a0 x2 x3 hk_a0 hf
theorem c_M_stops (G : ns_G) (l : Launch) (σ : ns_St) (a0 : Nat) (x1 : Int32) (x2 : Int32) {r : Int32} {σ' : ns_St} (hf : g_M_stops σ a0 x1 x2 = some (r, σ')) : ns_ok G l ⟨"NinthStepModel", "stops", "(II)I"⟩ prog_11_method_43_code 4 (some .int) 3 64 0 0 [.ref (G.1 + a0), .int x1, .int x2] ns_N σ (some (.int r)) ns_N σ' := by
  refine v_open (by decide) (Nat.le_of_ble_eq_true rfl) rfl ?_
  intro p e s m below meth c C hr _
  have C : ns_Cx G p s m _ meth c prog_11_method_43_code "NinthStepModel" 4 := C
  unfold g_M_stops at hf
  obtain ⟨hk_a0, hf⟩ := grd_e hf
  refine v_aload_n C 0 0 rfl 1 rfl (by decide +kernel) ?_
  refine v_iload_n C 1 1 rfl 2 rfl (by decide +kernel) ?_
  obtain ⟨r30, σ29, hcr30, hf⟩ := cl2_e hf
  refine v_cV C 9 rfl (ns_kd_lt hk_a0 (by decide)) hk_a0 (by decide) [.int x1] [] (c_M_isMule G l σ a0 x1 hcr30) 84 1 tw_1111 tw_1108 tw_1110 ts_76 tw_10 hd_M_isMule rfl ⟨(Nat.le_of_ble_eq_true rfl), (Nat.le_of_ble_eq_true rfl)⟩ ⟨(Nat.le_of_ble_eq_true rfl), (Nat.le_of_ble_eq_true rfl)⟩ (Nat.le_of_ble_eq_true rfl) rfl 5 rfl (by decide +kernel) [.int r30] rfl ?_
  refine v_if_eq C 13 8 rfl (by decide +kernel) (fun h31 => ?_) (fun h31 => ?_)
  · have hf := ite2_t hf h31
    refine v_aload_n C 0 0 rfl 14 rfl (by decide +kernel) ?_
    refine v_bipush C (-2) (-2) (by decide) 16 rfl (by decide +kernel) ?_
    obtain ⟨r33, σ32, hcr33, hf⟩ := cl2_e hf
    refine v_cV C 9 rfl (ns_kd_lt hk_a0 (by decide)) hk_a0 (by decide) [.int (-2 : Int32)] [] (c_M_no G l σ29 a0 (-2 : Int32) hcr33) 73 1 tw_1079 tw_1076 tw_1078 ts_73 tw_10 hd_M_no rfl ⟨(Nat.le_of_ble_eq_true rfl), (Nat.le_of_ble_eq_true rfl)⟩ ⟨(Nat.le_of_ble_eq_true rfl), (Nat.le_of_ble_eq_true rfl)⟩ (Nat.le_of_ble_eq_true rfl) rfl 19 rfl (by decide +kernel) [.int r33] rfl ?_
    obtain ⟨rfl, rfl⟩ := ret_e hf
    exact v_iret C hr (by decide +kernel)
  · have hf := ite2_f hf h31
    refine v_iload_n C 2 2 rfl 9 rfl (by decide +kernel) ?_
    refine v_iconst C (-1) (-1) (by decide) 10 rfl (by decide +kernel) ?_
    refine v_icmp_ge C 20 13 rfl (by decide +kernel) (fun h34 => ?_) (fun h34 => ?_)
    · have hf := ite2_t hf h34
      refine v_iconst C (0) (0) (by decide) 21 rfl (by decide +kernel) ?_
      refine v_istore_n C 3 [(3, .int (0 : Int32)), (0, .ref (G.1 + a0)), (1, .int x1), (2, .int x2)] (by decide) rfl 22 rfl (by decide +kernel) ?_
      refine v_aload_n C 0 1 rfl 23 rfl (by decide +kernel) ?_
      refine v_iload_n C 1 2 rfl 24 rfl (by decide +kernel) ?_
      obtain ⟨r36, σ35, hcr36, hf⟩ := cl2_e hf
      refine v_cV C 9 rfl (ns_kd_lt hk_a0 (by decide)) hk_a0 (by decide) [.int x1] [] (c_M_begins G l σ29 a0 x1 hcr36) 205 1 tw_1242 tw_1239 tw_1241 ts_91 tw_10 hd_M_begins rfl ⟨(Nat.le_of_ble_eq_true rfl), (Nat.le_of_ble_eq_true rfl)⟩ ⟨(Nat.le_of_ble_eq_true rfl), (Nat.le_of_ble_eq_true rfl)⟩ (Nat.le_of_ble_eq_true rfl) rfl 27 rfl (by decide +kernel) [] rfl ?_
      refine v_sub [1, 3, 0] rfl ?_
      exact t_M_stops_27 G l C hr  ns_F σ35 a0 x2 (0 : Int32) hk_a0 hf
    · have hf := ite2_f hf h34
      refine v_aload_n C 0 0 rfl 14 rfl (by decide +kernel) ?_
      refine v_bipush C (-2) (-2) (by decide) 16 rfl (by decide +kernel) ?_
      obtain ⟨r38, σ37, hcr38, hf⟩ := cl2_e hf
      refine v_cV C 9 rfl (ns_kd_lt hk_a0 (by decide)) hk_a0 (by decide) [.int (-2 : Int32)] [] (c_M_no G l σ29 a0 (-2 : Int32) hcr38) 73 1 tw_1079 tw_1076 tw_1078 ts_73 tw_10 hd_M_no rfl ⟨(Nat.le_of_ble_eq_true rfl), (Nat.le_of_ble_eq_true rfl)⟩ ⟨(Nat.le_of_ble_eq_true rfl), (Nat.le_of_ble_eq_true rfl)⟩ (Nat.le_of_ble_eq_true rfl) rfl 19 rfl (by decide +kernel) [.int r38] rfl ?_
      obtain ⟨rfl, rfl⟩ := ret_e hf
      exact v_iret C hr (by decide +kernel)
theorem hd_M_stops : (⟨"NinthStepModel", "stops", "(II)I"⟩ : MethodName).cls = "NinthStepModel" ∧ (⟨"NinthStepModel", "stops", "(II)I"⟩ : MethodName).cls ≠ "java/lang/invoke/MethodHandle" ∧ (⟨"NinthStepModel", "stops", "(II)I"⟩ : MethodName).cls ≠ "java/lang/invoke/VarHandle" ∧ (parseMethodDescriptor (⟨"NinthStepModel", "stops", "(II)I"⟩ : MethodName).desc).map (fun d => d.parameters.length) = some 2 := by decide +kernel
def g_M_minutesOf_7  : Nat → ns_St → Nat → Int32 → Int32 → Option (Int32 × ns_St)
  | 0, _, _, _, _ => none
  | f + 1, σ, a0, x1, x2 => ite2 ((σ.1 a0 3) ≤ (σ.1 a0 27)) (some (x2, σ)) (cl2 (g_M_stepped σ a0 (0 : Int32)) fun r13 σ12 => ite2 (r13 = 0) (bnd (x2 + (1 : Int32)) fun z15 => (g_M_minutesOf_7 f) σ12 a0 x1 z15) (cl2 (g_M_rest σ12 a0 x1) fun r17 σ16 => bnd (x2 + ((1 : Int32) + r17)) fun z18 => (g_M_minutesOf_7 f) σ16 a0 x1 z18))
def g_M_minutesOf (σ : ns_St) (a0 : Nat) (x1 : Int32) : Option (Int32 × ns_St) := grd (ns_kd a0 = 9) <| cl2 (g_M_begins σ a0 x1) fun r20 σ19 => g_M_minutesOf_7 ns_F σ19 a0 x1 (0 : Int32)
theorem t_M_minutesOf_7 (G : ns_G) (l : Launch) {p : Program} {e : Env} {s : State} {m : MethodId} {args : Array Value} {below : List Frame} {meth : Method} {c : Code} (C : ns_Cx G p s m args meth c prog_11_method_44_code "NinthStepModel" 3) (hr : meth.sig.returnType = (some .int)) {r : Int32} {σ' : ns_St}  : ∀ (f : Nat) (σ : ns_St) (a0 : Nat) (x1 : Int32) (x2 : Int32) (hk_a0 : ns_kd a0 = 9), g_M_minutesOf_7 f σ a0 x1 x2 = some (r, σ') → VV G p l e { frames := 3, cells := 0, slots := 0, locals := 64 } s m args below meth c 3 0 0 (MQ below (ns_Qc G (some (.int r)) ns_N σ') args s 0 0 (ns_A G)) ns_N σ 7 [(0, .ref (G.1 + a0)), (1, .int x1), (2, .int x2)] [] := by
  intro f
  induction f with
  | zero =>
    intro σ a0 x1 x2 hk_a0 hf
    cases hf
  | succ f ih =>
    intro σ a0 x1 x2 hk_a0 hf
    rw [g_M_minutesOf_7] at hf
    refine v_aload_n C 0 0 rfl 8 rfl (by decide +kernel) ?_
    refine v_getI C 9 27 rfl nin_9 (ns_kd_lt hk_a0 (by decide)) hk_a0 (by decide) (by decide) rfl 191 tw_1002 rfl 11 rfl (by decide +kernel) ?_
    refine v_aload_n C 0 0 rfl 12 rfl (by decide +kernel) ?_
    refine v_getI C 9 3 rfl nin_9 (ns_kd_lt hk_a0 (by decide)) hk_a0 (by decide) (by decide) rfl 59 tw_978 rfl 15 rfl (by decide +kernel) ?_
    refine v_icmp_ge C 43 18 rfl (by decide +kernel) (fun h11 => ?_) (fun h11 => ?_)
    · have hf := ite2_t hf h11
      refine v_iload_n C 2 2 rfl 44 rfl (by decide +kernel) ?_
      obtain ⟨rfl, rfl⟩ := ret_e hf
      exact v_iret C hr (by decide +kernel)
    · have hf := ite2_f hf h11
      refine v_iload_n C 2 2 rfl 19 rfl (by decide +kernel) ?_
      refine v_aload_n C 0 0 rfl 20 rfl (by decide +kernel) ?_
      refine v_iconst C (0) (0) (by decide) 21 rfl (by decide +kernel) ?_
      obtain ⟨r13, σ12, hcr13, hf⟩ := cl2_e hf
      refine v_cV C 9 rfl (ns_kd_lt hk_a0 (by decide)) hk_a0 (by decide) [.int (0 : Int32)] [.int x2] (c_M_stepped G l σ a0 (0 : Int32) hcr13) 208 1 tw_1246 tw_1243 tw_1245 ts_92 tw_10 hd_M_stepped rfl ⟨(Nat.le_of_ble_eq_true rfl), (Nat.le_of_ble_eq_true rfl)⟩ ⟨(Nat.le_of_ble_eq_true rfl), (Nat.le_of_ble_eq_true rfl)⟩ (Nat.le_of_ble_eq_true rfl) rfl 24 rfl (by decide +kernel) [.int r13, .int x2] rfl ?_
      refine v_if_eq C 37 27 rfl (by decide +kernel) (fun h14 => ?_) (fun h14 => ?_)
      · have hf := ite2_t hf h14
        refine v_iconst C (1) (1) (by decide) 38 rfl (by decide +kernel) ?_
        refine v_iadd C 39 rfl (by decide +kernel) ?_
        obtain ⟨z15, hz15, hf⟩ := bnd_e hf
        refine v_nmI hz15 ?_
        refine v_istore_n C 2 [(2, .int z15), (0, .ref (G.1 + a0)), (1, .int x1)] (by decide) rfl 40 rfl (by decide +kernel) ?_
        refine v_goto C 7 (by decide +kernel) ?_
        refine v_sub [1, 2, 0] rfl ?_
        exact ih σ12 a0 x1 z15 hk_a0 hf
      · have hf := ite2_f hf h14
        refine v_iconst C (1) (1) (by decide) 28 rfl (by decide +kernel) ?_
        refine v_aload_n C 0 0 rfl 29 rfl (by decide +kernel) ?_
        refine v_iload_n C 1 1 rfl 30 rfl (by decide +kernel) ?_
        obtain ⟨r17, σ16, hcr17, hf⟩ := cl2_e hf
        refine v_cV C 9 rfl (ns_kd_lt hk_a0 (by decide)) hk_a0 (by decide) [.int x1] [.int (1 : Int32), .int x2] (c_M_rest G l σ12 a0 x1 hcr17) 94 1 tw_1122 tw_1119 tw_1121 ts_77 tw_10 hd_M_rest rfl ⟨(Nat.le_of_ble_eq_true rfl), (Nat.le_of_ble_eq_true rfl)⟩ ⟨(Nat.le_of_ble_eq_true rfl), (Nat.le_of_ble_eq_true rfl)⟩ (Nat.le_of_ble_eq_true rfl) rfl 33 rfl (by decide +kernel) [.int r17, .int (1 : Int32), .int x2] rfl ?_
        refine v_iadd C 34 rfl (by decide +kernel) ?_
        refine v_goto C 38 (by decide +kernel) ?_
        refine v_iadd C 39 rfl (by decide +kernel) ?_
        obtain ⟨z18, hz18, hf⟩ := bnd_e hf
        refine v_nmI hz18 ?_
        refine v_istore_n C 2 [(2, .int z18), (0, .ref (G.1 + a0)), (1, .int x1)] (by decide) rfl 40 rfl (by decide +kernel) ?_
        refine v_goto C 7 (by decide +kernel) ?_
        refine v_sub [1, 2, 0] rfl ?_
        exact ih σ16 a0 x1 z18 hk_a0 hf
theorem c_M_minutesOf (G : ns_G) (l : Launch) (σ : ns_St) (a0 : Nat) (x1 : Int32) {r : Int32} {σ' : ns_St} (hf : g_M_minutesOf σ a0 x1 = some (r, σ')) : ns_ok G l ⟨"NinthStepModel", "minutesOf", "(I)I"⟩ prog_11_method_44_code 3 (some .int) 3 64 0 0 [.ref (G.1 + a0), .int x1] ns_N σ (some (.int r)) ns_N σ' := by
  refine v_open (by decide) (Nat.le_of_ble_eq_true rfl) rfl ?_
  intro p e s m below meth c C hr _
  have C : ns_Cx G p s m _ meth c prog_11_method_44_code "NinthStepModel" 3 := C
  unfold g_M_minutesOf at hf
  obtain ⟨hk_a0, hf⟩ := grd_e hf
  refine v_iconst C (0) (0) (by decide) 1 rfl (by decide +kernel) ?_
  refine v_istore_n C 2 [(2, .int (0 : Int32)), (0, .ref (G.1 + a0)), (1, .int x1)] (by decide) rfl 2 rfl (by decide +kernel) ?_
  refine v_aload_n C 0 1 rfl 3 rfl (by decide +kernel) ?_
  refine v_iload_n C 1 2 rfl 4 rfl (by decide +kernel) ?_
  obtain ⟨r20, σ19, hcr20, hf⟩ := cl2_e hf
  refine v_cV C 9 rfl (ns_kd_lt hk_a0 (by decide)) hk_a0 (by decide) [.int x1] [] (c_M_begins G l σ a0 x1 hcr20) 205 1 tw_1242 tw_1239 tw_1241 ts_91 tw_10 hd_M_begins rfl ⟨(Nat.le_of_ble_eq_true rfl), (Nat.le_of_ble_eq_true rfl)⟩ ⟨(Nat.le_of_ble_eq_true rfl), (Nat.le_of_ble_eq_true rfl)⟩ (Nat.le_of_ble_eq_true rfl) rfl 7 rfl (by decide +kernel) [] rfl ?_
  refine v_sub [1, 2, 0] rfl ?_
  exact t_M_minutesOf_7 G l C hr  ns_F σ19 a0 x1 (0 : Int32) hk_a0 hf
theorem hd_M_minutesOf : (⟨"NinthStepModel", "minutesOf", "(I)I"⟩ : MethodName).cls = "NinthStepModel" ∧ (⟨"NinthStepModel", "minutesOf", "(I)I"⟩ : MethodName).cls ≠ "java/lang/invoke/MethodHandle" ∧ (⟨"NinthStepModel", "minutesOf", "(I)I"⟩ : MethodName).cls ≠ "java/lang/invoke/VarHandle" ∧ (parseMethodDescriptor (⟨"NinthStepModel", "minutesOf", "(I)I"⟩ : MethodName).desc).map (fun d => d.parameters.length) = some 1 := by decide +kernel
def g_M_minutes (σ : ns_St) (a0 : Nat) (x1 : Int32) : Option (Int32 × ns_St) := grd (ns_kd a0 = 9) <| cl2 (g_M_isMule σ a0 x1) fun r9 σ8 => ite2 (r9 = 0) (cl2 (g_M_no σ8 a0 (-2 : Int32)) fun r12 σ11 => some (r12, σ11)) (cl2 (g_M_minutesOf σ8 a0 x1) fun r14 σ13 => some (r14, σ13))
theorem c_M_minutes (G : ns_G) (l : Launch) (σ : ns_St) (a0 : Nat) (x1 : Int32) {r : Int32} {σ' : ns_St} (hf : g_M_minutes σ a0 x1 = some (r, σ')) : ns_ok G l ⟨"NinthStepModel", "minutes", "(I)I"⟩ prog_11_method_45_code 2 (some .int) 4 86 0 0 [.ref (G.1 + a0), .int x1] ns_N σ (some (.int r)) ns_N σ' := by
  refine v_open (by decide) (Nat.le_of_ble_eq_true rfl) rfl ?_
  intro p e s m below meth c C hr _
  have C : ns_Cx G p s m _ meth c prog_11_method_45_code "NinthStepModel" 2 := C
  unfold g_M_minutes at hf
  obtain ⟨hk_a0, hf⟩ := grd_e hf
  refine v_aload_n C 0 0 rfl 1 rfl (by decide +kernel) ?_
  refine v_iload_n C 1 1 rfl 2 rfl (by decide +kernel) ?_
  obtain ⟨r9, σ8, hcr9, hf⟩ := cl2_e hf
  refine v_cV C 9 rfl (ns_kd_lt hk_a0 (by decide)) hk_a0 (by decide) [.int x1] [] (c_M_isMule G l σ a0 x1 hcr9) 84 1 tw_1111 tw_1108 tw_1110 ts_76 tw_10 hd_M_isMule rfl ⟨(Nat.le_of_ble_eq_true rfl), (Nat.le_of_ble_eq_true rfl)⟩ ⟨(Nat.le_of_ble_eq_true rfl), (Nat.le_of_ble_eq_true rfl)⟩ (Nat.le_of_ble_eq_true rfl) rfl 5 rfl (by decide +kernel) [.int r9] rfl ?_
  refine v_if_eq C 16 8 rfl (by decide +kernel) (fun h10 => ?_) (fun h10 => ?_)
  · have hf := ite2_t hf h10
    refine v_aload_n C 0 0 rfl 17 rfl (by decide +kernel) ?_
    refine v_bipush C (-2) (-2) (by decide) 19 rfl (by decide +kernel) ?_
    obtain ⟨r12, σ11, hcr12, hf⟩ := cl2_e hf
    refine v_cV C 9 rfl (ns_kd_lt hk_a0 (by decide)) hk_a0 (by decide) [.int (-2 : Int32)] [] (c_M_no G l σ8 a0 (-2 : Int32) hcr12) 73 1 tw_1079 tw_1076 tw_1078 ts_73 tw_10 hd_M_no rfl ⟨(Nat.le_of_ble_eq_true rfl), (Nat.le_of_ble_eq_true rfl)⟩ ⟨(Nat.le_of_ble_eq_true rfl), (Nat.le_of_ble_eq_true rfl)⟩ (Nat.le_of_ble_eq_true rfl) rfl 22 rfl (by decide +kernel) [.int r12] rfl ?_
    obtain ⟨rfl, rfl⟩ := ret_e hf
    exact v_iret C hr (by decide +kernel)
  · have hf := ite2_f hf h10
    refine v_aload_n C 0 0 rfl 9 rfl (by decide +kernel) ?_
    refine v_iload_n C 1 1 rfl 10 rfl (by decide +kernel) ?_
    obtain ⟨r14, σ13, hcr14, hf⟩ := cl2_e hf
    refine v_cV C 9 rfl (ns_kd_lt hk_a0 (by decide)) hk_a0 (by decide) [.int x1] [] (c_M_minutesOf G l σ8 a0 x1 hcr14) 212 1 tw_1259 tw_1256 tw_1258 ts_94 tw_10 hd_M_minutesOf rfl ⟨(Nat.le_of_ble_eq_true rfl), (Nat.le_of_ble_eq_true rfl)⟩ ⟨(Nat.le_of_ble_eq_true rfl), (Nat.le_of_ble_eq_true rfl)⟩ (Nat.le_of_ble_eq_true rfl) rfl 13 rfl (by decide +kernel) [.int r14] rfl ?_
    refine v_goto C 22 (by decide +kernel) ?_
    obtain ⟨rfl, rfl⟩ := ret_e hf
    exact v_iret C hr (by decide +kernel)
theorem hd_M_minutes : (⟨"NinthStepModel", "minutes", "(I)I"⟩ : MethodName).cls = "NinthStepModel" ∧ (⟨"NinthStepModel", "minutes", "(I)I"⟩ : MethodName).cls ≠ "java/lang/invoke/MethodHandle" ∧ (⟨"NinthStepModel", "minutes", "(I)I"⟩ : MethodName).cls ≠ "java/lang/invoke/VarHandle" ∧ (parseMethodDescriptor (⟨"NinthStepModel", "minutes", "(I)I"⟩ : MethodName).desc).map (fun d => d.parameters.length) = some 1 := by decide +kernel
def g_M_afterAll_7  : Nat → ns_St → Nat → Int32 → Int32 → Int32 → Option (Int32 × ns_St)
  | 0, _, _, _, _, _ => none
  | f + 1, σ, a0, x1, x2, x3 => ite2 ((σ.1 a0 3) ≤ (σ.1 a0 27)) (some ((σ.1 a0 27), σ)) (ite2 (x2 ≤ x3) (some ((σ.1 a0 27), σ)) (cl2 (g_M_stepped σ a0 (0 : Int32)) fun r15 σ14 => ite2 (r15 = 0) (bnd (x3 + (1 : Int32)) fun z17 => (g_M_afterAll_7 f) σ14 a0 x1 x2 z17) (cl2 (g_M_rest σ14 a0 x1) fun r19 σ18 => bnd (x3 + ((1 : Int32) + r19)) fun z20 => (g_M_afterAll_7 f) σ18 a0 x1 x2 z20)))
def g_M_afterAll (σ : ns_St) (a0 : Nat) (x1 : Int32) (x2 : Int32) : Option (Int32 × ns_St) := grd (ns_kd a0 = 9) <| cl2 (g_M_begins σ a0 x1) fun r22 σ21 => g_M_afterAll_7 ns_F σ21 a0 x1 x2 (0 : Int32)
theorem t_M_afterAll_7 (G : ns_G) (l : Launch) {p : Program} {e : Env} {s : State} {m : MethodId} {args : Array Value} {below : List Frame} {meth : Method} {c : Code} (C : ns_Cx G p s m args meth c prog_11_method_46_code "NinthStepModel" 4) (hr : meth.sig.returnType = (some .int)) {r : Int32} {σ' : ns_St}  : ∀ (f : Nat) (σ : ns_St) (a0 : Nat) (x1 : Int32) (x2 : Int32) (x3 : Int32) (hk_a0 : ns_kd a0 = 9), g_M_afterAll_7 f σ a0 x1 x2 x3 = some (r, σ') → VV G p l e { frames := 3, cells := 0, slots := 0, locals := 64 } s m args below meth c 4 0 0 (MQ below (ns_Qc G (some (.int r)) ns_N σ') args s 0 0 (ns_A G)) ns_N σ 7 [(0, .ref (G.1 + a0)), (1, .int x1), (2, .int x2), (3, .int x3)] [] := by
  intro f
  induction f with
  | zero =>
    intro σ a0 x1 x2 x3 hk_a0 hf
    cases hf
  | succ f ih =>
    intro σ a0 x1 x2 x3 hk_a0 hf
    rw [g_M_afterAll_7] at hf
    refine v_aload_n C 0 0 rfl 8 rfl (by decide +kernel) ?_
    refine v_getI C 9 27 rfl nin_9 (ns_kd_lt hk_a0 (by decide)) hk_a0 (by decide) (by decide) rfl 191 tw_1002 rfl 11 rfl (by decide +kernel) ?_
    refine v_aload_n C 0 0 rfl 12 rfl (by decide +kernel) ?_
    refine v_getI C 9 3 rfl nin_9 (ns_kd_lt hk_a0 (by decide)) hk_a0 (by decide) (by decide) rfl 59 tw_978 rfl 15 rfl (by decide +kernel) ?_
    refine v_icmp_ge C 48 18 rfl (by decide +kernel) (fun h12 => ?_) (fun h12 => ?_)
    · have hf := ite2_t hf h12
      refine v_aload_n C 0 0 rfl 49 rfl (by decide +kernel) ?_
      refine v_getI C 9 27 rfl nin_9 (ns_kd_lt hk_a0 (by decide)) hk_a0 (by decide) (by decide) rfl 191 tw_1002 rfl 52 rfl (by decide +kernel) ?_
      obtain ⟨rfl, rfl⟩ := ret_e hf
      exact v_iret C hr (by decide +kernel)
    · have hf := ite2_f hf h12
      refine v_iload_n C 3 3 rfl 19 rfl (by decide +kernel) ?_
      refine v_iload_n C 2 2 rfl 20 rfl (by decide +kernel) ?_
      refine v_icmp_ge C 48 23 rfl (by decide +kernel) (fun h13 => ?_) (fun h13 => ?_)
      · have hf := ite2_t hf h13
        refine v_aload_n C 0 0 rfl 49 rfl (by decide +kernel) ?_
        refine v_getI C 9 27 rfl nin_9 (ns_kd_lt hk_a0 (by decide)) hk_a0 (by decide) (by decide) rfl 191 tw_1002 rfl 52 rfl (by decide +kernel) ?_
        obtain ⟨rfl, rfl⟩ := ret_e hf
        exact v_iret C hr (by decide +kernel)
      · have hf := ite2_f hf h13
        refine v_iload_n C 3 3 rfl 24 rfl (by decide +kernel) ?_
        refine v_aload_n C 0 0 rfl 25 rfl (by decide +kernel) ?_
        refine v_iconst C (0) (0) (by decide) 26 rfl (by decide +kernel) ?_
        obtain ⟨r15, σ14, hcr15, hf⟩ := cl2_e hf
        refine v_cV C 9 rfl (ns_kd_lt hk_a0 (by decide)) hk_a0 (by decide) [.int (0 : Int32)] [.int x3] (c_M_stepped G l σ a0 (0 : Int32) hcr15) 208 1 tw_1246 tw_1243 tw_1245 ts_92 tw_10 hd_M_stepped rfl ⟨(Nat.le_of_ble_eq_true rfl), (Nat.le_of_ble_eq_true rfl)⟩ ⟨(Nat.le_of_ble_eq_true rfl), (Nat.le_of_ble_eq_true rfl)⟩ (Nat.le_of_ble_eq_true rfl) rfl 29 rfl (by decide +kernel) [.int r15, .int x3] rfl ?_
        refine v_if_eq C 42 32 rfl (by decide +kernel) (fun h16 => ?_) (fun h16 => ?_)
        · have hf := ite2_t hf h16
          refine v_iconst C (1) (1) (by decide) 43 rfl (by decide +kernel) ?_
          refine v_iadd C 44 rfl (by decide +kernel) ?_
          obtain ⟨z17, hz17, hf⟩ := bnd_e hf
          refine v_nmI hz17 ?_
          refine v_istore_n C 3 [(3, .int z17), (0, .ref (G.1 + a0)), (1, .int x1), (2, .int x2)] (by decide) rfl 45 rfl (by decide +kernel) ?_
          refine v_goto C 7 (by decide +kernel) ?_
          refine v_sub [1, 2, 3, 0] rfl ?_
          exact ih σ14 a0 x1 x2 z17 hk_a0 hf
        · have hf := ite2_f hf h16
          refine v_iconst C (1) (1) (by decide) 33 rfl (by decide +kernel) ?_
          refine v_aload_n C 0 0 rfl 34 rfl (by decide +kernel) ?_
          refine v_iload_n C 1 1 rfl 35 rfl (by decide +kernel) ?_
          obtain ⟨r19, σ18, hcr19, hf⟩ := cl2_e hf
          refine v_cV C 9 rfl (ns_kd_lt hk_a0 (by decide)) hk_a0 (by decide) [.int x1] [.int (1 : Int32), .int x3] (c_M_rest G l σ14 a0 x1 hcr19) 94 1 tw_1122 tw_1119 tw_1121 ts_77 tw_10 hd_M_rest rfl ⟨(Nat.le_of_ble_eq_true rfl), (Nat.le_of_ble_eq_true rfl)⟩ ⟨(Nat.le_of_ble_eq_true rfl), (Nat.le_of_ble_eq_true rfl)⟩ (Nat.le_of_ble_eq_true rfl) rfl 38 rfl (by decide +kernel) [.int r19, .int (1 : Int32), .int x3] rfl ?_
          refine v_iadd C 39 rfl (by decide +kernel) ?_
          refine v_goto C 43 (by decide +kernel) ?_
          refine v_iadd C 44 rfl (by decide +kernel) ?_
          obtain ⟨z20, hz20, hf⟩ := bnd_e hf
          refine v_nmI hz20 ?_
          refine v_istore_n C 3 [(3, .int z20), (0, .ref (G.1 + a0)), (1, .int x1), (2, .int x2)] (by decide) rfl 45 rfl (by decide +kernel) ?_
          refine v_goto C 7 (by decide +kernel) ?_
          refine v_sub [1, 2, 3, 0] rfl ?_
          exact ih σ18 a0 x1 x2 z20 hk_a0 hf
theorem c_M_afterAll (G : ns_G) (l : Launch) (σ : ns_St) (a0 : Nat) (x1 : Int32) (x2 : Int32) {r : Int32} {σ' : ns_St} (hf : g_M_afterAll σ a0 x1 x2 = some (r, σ')) : ns_ok G l ⟨"NinthStepModel", "afterAll", "(II)I"⟩ prog_11_method_46_code 4 (some .int) 3 64 0 0 [.ref (G.1 + a0), .int x1, .int x2] ns_N σ (some (.int r)) ns_N σ' := by
  refine v_open (by decide) (Nat.le_of_ble_eq_true rfl) rfl ?_
  intro p e s m below meth c C hr _
  have C : ns_Cx G p s m _ meth c prog_11_method_46_code "NinthStepModel" 4 := C
  unfold g_M_afterAll at hf
  obtain ⟨hk_a0, hf⟩ := grd_e hf
  refine v_iconst C (0) (0) (by decide) 1 rfl (by decide +kernel) ?_
  refine v_istore_n C 3 [(3, .int (0 : Int32)), (0, .ref (G.1 + a0)), (1, .int x1), (2, .int x2)] (by decide) rfl 2 rfl (by decide +kernel) ?_
  refine v_aload_n C 0 1 rfl 3 rfl (by decide +kernel) ?_
  refine v_iload_n C 1 2 rfl 4 rfl (by decide +kernel) ?_
  obtain ⟨r22, σ21, hcr22, hf⟩ := cl2_e hf
  refine v_cV C 9 rfl (ns_kd_lt hk_a0 (by decide)) hk_a0 (by decide) [.int x1] [] (c_M_begins G l σ a0 x1 hcr22) 205 1 tw_1242 tw_1239 tw_1241 ts_91 tw_10 hd_M_begins rfl ⟨(Nat.le_of_ble_eq_true rfl), (Nat.le_of_ble_eq_true rfl)⟩ ⟨(Nat.le_of_ble_eq_true rfl), (Nat.le_of_ble_eq_true rfl)⟩ (Nat.le_of_ble_eq_true rfl) rfl 7 rfl (by decide +kernel) [] rfl ?_
  refine v_sub [1, 2, 3, 0] rfl ?_
  exact t_M_afterAll_7 G l C hr  ns_F σ21 a0 x1 x2 (0 : Int32) hk_a0 hf
theorem hd_M_afterAll : (⟨"NinthStepModel", "afterAll", "(II)I"⟩ : MethodName).cls = "NinthStepModel" ∧ (⟨"NinthStepModel", "afterAll", "(II)I"⟩ : MethodName).cls ≠ "java/lang/invoke/MethodHandle" ∧ (⟨"NinthStepModel", "afterAll", "(II)I"⟩ : MethodName).cls ≠ "java/lang/invoke/VarHandle" ∧ (parseMethodDescriptor (⟨"NinthStepModel", "afterAll", "(II)I"⟩ : MethodName).desc).map (fun d => d.parameters.length) = some 2 := by decide +kernel
def g_M_after (σ : ns_St) (a0 : Nat) (x1 : Int32) (x2 : Int32) : Option (Int32 × ns_St) := grd (ns_kd a0 = 9) <| cl2 (g_M_isMule σ a0 x1) fun r14 σ13 => ite2 (r14 = 0) (cl2 (g_M_no σ13 a0 (-2 : Int32)) fun r17 σ16 => some (r17, σ16)) (cl2 (g_M_within σ13 x2 (0 : Int32) (400 : Int32)) fun r19 σ18 => ite2 (r19 = 0) (cl2 (g_M_no σ18 a0 (-2 : Int32)) fun r22 σ21 => some (r22, σ21)) (cl2 (g_M_afterAll σ18 a0 x1 x2) fun r24 σ23 => some (r24, σ23)))
theorem c_M_after (G : ns_G) (l : Launch) (σ : ns_St) (a0 : Nat) (x1 : Int32) (x2 : Int32) {r : Int32} {σ' : ns_St} (hf : g_M_after σ a0 x1 x2 = some (r, σ')) : ns_ok G l ⟨"NinthStepModel", "after", "(II)I"⟩ prog_11_method_47_code 3 (some .int) 4 87 0 0 [.ref (G.1 + a0), .int x1, .int x2] ns_N σ (some (.int r)) ns_N σ' := by
  refine v_open (by decide) (Nat.le_of_ble_eq_true rfl) rfl ?_
  intro p e s m below meth c C hr _
  have C : ns_Cx G p s m _ meth c prog_11_method_47_code "NinthStepModel" 3 := C
  unfold g_M_after at hf
  obtain ⟨hk_a0, hf⟩ := grd_e hf
  refine v_aload_n C 0 0 rfl 1 rfl (by decide +kernel) ?_
  refine v_iload_n C 1 1 rfl 2 rfl (by decide +kernel) ?_
  obtain ⟨r14, σ13, hcr14, hf⟩ := cl2_e hf
  refine v_cV C 9 rfl (ns_kd_lt hk_a0 (by decide)) hk_a0 (by decide) [.int x1] [] (c_M_isMule G l σ a0 x1 hcr14) 84 1 tw_1111 tw_1108 tw_1110 ts_76 tw_10 hd_M_isMule rfl ⟨(Nat.le_of_ble_eq_true rfl), (Nat.le_of_ble_eq_true rfl)⟩ ⟨(Nat.le_of_ble_eq_true rfl), (Nat.le_of_ble_eq_true rfl)⟩ (Nat.le_of_ble_eq_true rfl) rfl 5 rfl (by decide +kernel) [.int r14] rfl ?_
  refine v_if_eq C 28 8 rfl (by decide +kernel) (fun h15 => ?_) (fun h15 => ?_)
  · have hf := ite2_t hf h15
    refine v_aload_n C 0 0 rfl 29 rfl (by decide +kernel) ?_
    refine v_bipush C (-2) (-2) (by decide) 31 rfl (by decide +kernel) ?_
    obtain ⟨r17, σ16, hcr17, hf⟩ := cl2_e hf
    refine v_cV C 9 rfl (ns_kd_lt hk_a0 (by decide)) hk_a0 (by decide) [.int (-2 : Int32)] [] (c_M_no G l σ13 a0 (-2 : Int32) hcr17) 73 1 tw_1079 tw_1076 tw_1078 ts_73 tw_10 hd_M_no rfl ⟨(Nat.le_of_ble_eq_true rfl), (Nat.le_of_ble_eq_true rfl)⟩ ⟨(Nat.le_of_ble_eq_true rfl), (Nat.le_of_ble_eq_true rfl)⟩ (Nat.le_of_ble_eq_true rfl) rfl 34 rfl (by decide +kernel) [.int r17] rfl ?_
    obtain ⟨rfl, rfl⟩ := ret_e hf
    exact v_iret C hr (by decide +kernel)
  · have hf := ite2_f hf h15
    refine v_iload_n C 2 2 rfl 9 rfl (by decide +kernel) ?_
    refine v_iconst C (0) (0) (by decide) 10 rfl (by decide +kernel) ?_
    refine v_sipush C (400) (400) (by decide) 13 rfl (by decide +kernel) ?_
    obtain ⟨r19, σ18, hcr19, hf⟩ := cl2_e hf
    refine v_cS C [.int x2, .int (0 : Int32), .int (400 : Int32)] [] (c_M_within G l σ13 x2 (0 : Int32) (400 : Int32) hcr19) 69 3 tw_1075 tw_1073 tw_1074 tw_10 hd_M_within rfl ⟨(Nat.le_of_ble_eq_true rfl), (Nat.le_of_ble_eq_true rfl)⟩ ⟨(Nat.le_of_ble_eq_true rfl), (Nat.le_of_ble_eq_true rfl)⟩ (Nat.le_of_ble_eq_true rfl) rfl 16 rfl (by decide +kernel) [.int r19] rfl ?_
    refine v_if_eq C 28 19 rfl (by decide +kernel) (fun h20 => ?_) (fun h20 => ?_)
    · have hf := ite2_t hf h20
      refine v_aload_n C 0 0 rfl 29 rfl (by decide +kernel) ?_
      refine v_bipush C (-2) (-2) (by decide) 31 rfl (by decide +kernel) ?_
      obtain ⟨r22, σ21, hcr22, hf⟩ := cl2_e hf
      refine v_cV C 9 rfl (ns_kd_lt hk_a0 (by decide)) hk_a0 (by decide) [.int (-2 : Int32)] [] (c_M_no G l σ18 a0 (-2 : Int32) hcr22) 73 1 tw_1079 tw_1076 tw_1078 ts_73 tw_10 hd_M_no rfl ⟨(Nat.le_of_ble_eq_true rfl), (Nat.le_of_ble_eq_true rfl)⟩ ⟨(Nat.le_of_ble_eq_true rfl), (Nat.le_of_ble_eq_true rfl)⟩ (Nat.le_of_ble_eq_true rfl) rfl 34 rfl (by decide +kernel) [.int r22] rfl ?_
      obtain ⟨rfl, rfl⟩ := ret_e hf
      exact v_iret C hr (by decide +kernel)
    · have hf := ite2_f hf h20
      refine v_aload_n C 0 0 rfl 20 rfl (by decide +kernel) ?_
      refine v_iload_n C 1 1 rfl 21 rfl (by decide +kernel) ?_
      refine v_iload_n C 2 2 rfl 22 rfl (by decide +kernel) ?_
      obtain ⟨r24, σ23, hcr24, hf⟩ := cl2_e hf
      refine v_cV C 9 rfl (ns_kd_lt hk_a0 (by decide)) hk_a0 (by decide) [.int x1, .int x2] [] (c_M_afterAll G l σ18 a0 x1 x2 hcr24) 215 2 tw_1267 tw_1264 tw_1266 ts_95 tw_10 hd_M_afterAll rfl ⟨(Nat.le_of_ble_eq_true rfl), (Nat.le_of_ble_eq_true rfl)⟩ ⟨(Nat.le_of_ble_eq_true rfl), (Nat.le_of_ble_eq_true rfl)⟩ (Nat.le_of_ble_eq_true rfl) rfl 25 rfl (by decide +kernel) [.int r24] rfl ?_
      refine v_goto C 34 (by decide +kernel) ?_
      obtain ⟨rfl, rfl⟩ := ret_e hf
      exact v_iret C hr (by decide +kernel)
theorem hd_M_after : (⟨"NinthStepModel", "after", "(II)I"⟩ : MethodName).cls = "NinthStepModel" ∧ (⟨"NinthStepModel", "after", "(II)I"⟩ : MethodName).cls ≠ "java/lang/invoke/MethodHandle" ∧ (⟨"NinthStepModel", "after", "(II)I"⟩ : MethodName).cls ≠ "java/lang/invoke/VarHandle" ∧ (parseMethodDescriptor (⟨"NinthStepModel", "after", "(II)I"⟩ : MethodName).desc).map (fun d => d.parameters.length) = some 2 := by decide +kernel
def g_M_journey_52 (kh13 : ns_St → Nat → Int32 → Int32 → Int32 → Int32 → Option (Int32 × ns_St)) (σ : ns_St) (a0 : Nat) (x2 : Int32) (x3 : Int32) (x4 : Int32) (x5 : Int32) (x6 : Int32) : Option (Int32 × ns_St) := ite2 (x6 = 0) (kh13 σ a0 x2 x3 x4 x5) (cl2 (g_M_isThere σ a0 (σ.1 a0 27) (4 : Int32)) fun r23 σ22 => ite2 (r23 = 0) (kh13 σ22 a0 x2 x3 x4 x5) (ite2 (x4 = (-1 : Int32)) (bnd (σ22.1 a0 27) fun z27 => bnd (x3 + 1) fun z28 => kh13 σ22 a0 x2 z28 z27 x5) (bnd (x3 + 1) fun z26 => kh13 σ22 a0 x2 z26 x4 x5)))
def g_M_journey_13  : Nat → ns_St → Nat → Int32 → Int32 → Int32 → Int32 → Option (Int32 × ns_St)
  | 0, _, _, _, _, _, _ => none
  | f + 1, σ, a0, x2, x3, x4, x5 => ite2 ((σ.1 a0 3) ≤ (σ.1 a0 27)) (ite2 (x2 = 0) (some (x3, σ)) (ite2 (x2 = (1 : Int32)) (some (x4, σ)) (some (x5, σ)))) (cl2 (g_M_stepped σ a0 (0 : Int32)) fun r33 σ32 => ite2 (r33 = 0) (cl2 (g_M_isThere σ32 a0 (σ32.1 a0 27) (8 : Int32)) fun r36 σ35 => ite2 (r36 = 0) (g_M_journey_52 (g_M_journey_13 f) σ35 a0 x2 x3 x4 x5 r33) (bnd (x5 + 1) fun z38 => g_M_journey_52 (g_M_journey_13 f) σ35 a0 x2 x3 x4 z38 r33)) (g_M_journey_52 (g_M_journey_13 f) σ32 a0 x2 x3 x4 x5 r33))
def g_M_journey (σ : ns_St) (a0 : Nat) (x1 : Int32) (x2 : Int32) : Option (Int32 × ns_St) := grd (ns_kd a0 = 9) <| cl2 (g_M_begins σ a0 x1) fun r40 σ39 => g_M_journey_13 ns_F σ39 a0 x2 (0 : Int32) (-1 : Int32) (0 : Int32)
theorem t_M_journey_52 (G : ns_G) (l : Launch) {p : Program} {e : Env} {s : State} {m : MethodId} {args : Array Value} {below : List Frame} {meth : Method} {c : Code} (C : ns_Cx G p s m args meth c prog_11_method_48_code "NinthStepModel" 7) (hr : meth.sig.returnType = (some .int)) {r : Int32} {σ' : ns_St} {kh13 : ns_St → Nat → Int32 → Int32 → Int32 → Int32 → Option (Int32 × ns_St)} (hkh13 : ∀ (σ : ns_St) (a0 : Nat) (x2 : Int32) (x3 : Int32) (x4 : Int32) (x5 : Int32), ns_kd a0 = 9 → kh13 σ a0 x2 x3 x4 x5 = some (r, σ') → VV G p l e { frames := 3, cells := 0, slots := 0, locals := 64 } s m args below meth c 7 0 0 (MQ below (ns_Qc G (some (.int r)) ns_N σ') args s 0 0 (ns_A G)) ns_N σ 13 [(0, .ref (G.1 + a0)), (2, .int x2), (3, .int x3), (4, .int x4), (5, .int x5)] []) (σ : ns_St) (a0 : Nat) (x2 : Int32) (x3 : Int32) (x4 : Int32) (x5 : Int32) (x6 : Int32) (hk_a0 : ns_kd a0 = 9) (hf : g_M_journey_52 kh13 σ a0 x2 x3 x4 x5 x6 = some (r, σ')) : VV G p l e { frames := 3, cells := 0, slots := 0, locals := 64 } s m args below meth c 7 0 0 (MQ below (ns_Qc G (some (.int r)) ns_N σ') args s 0 0 (ns_A G)) ns_N σ 52 [(0, .ref (G.1 + a0)), (2, .int x2), (3, .int x3), (4, .int x4), (5, .int x5), (6, .int x6)] [] := by
  unfold g_M_journey_52 at hf
  refine v_iload C 6 5 rfl 54 rfl (by decide +kernel) ?_
  refine v_if_eq C 13 57 rfl (by decide +kernel) (fun h21 => ?_) (fun h21 => ?_)
  · have hf := ite2_t hf h21
    refine v_sub [0, 1, 2, 3, 4] rfl ?_
    exact hkh13 σ a0 x2 x3 x4 x5 hk_a0 hf
  · have hf := ite2_f hf h21
    refine v_aload_n C 0 0 rfl 58 rfl (by decide +kernel) ?_
    refine v_aload_n C 0 0 rfl 59 rfl (by decide +kernel) ?_
    refine v_getI C 9 27 rfl nin_9 (ns_kd_lt hk_a0 (by decide)) hk_a0 (by decide) (by decide) rfl 191 tw_1002 rfl 62 rfl (by decide +kernel) ?_
    refine v_iconst C (4) (4) (by decide) 63 rfl (by decide +kernel) ?_
    obtain ⟨r23, σ22, hcr23, hf⟩ := cl2_e hf
    refine v_cV C 9 rfl (ns_kd_lt hk_a0 (by decide)) hk_a0 (by decide) [.int (σ.1 a0 27), .int (4 : Int32)] [] (c_M_isThere G l σ a0 (σ.1 a0 27) (4 : Int32) hcr23) 87 2 tw_1130 tw_1127 tw_1129 ts_79 tw_10 hd_M_isThere rfl ⟨(Nat.le_of_ble_eq_true rfl), (Nat.le_of_ble_eq_true rfl)⟩ ⟨(Nat.le_of_ble_eq_true rfl), (Nat.le_of_ble_eq_true rfl)⟩ (Nat.le_of_ble_eq_true rfl) rfl 66 rfl (by decide +kernel) [.int r23] rfl ?_
    refine v_if_ne C 72 69 rfl (by decide +kernel) (fun h24 => ?_) (fun h24 => ?_)
    · have hf := ite2_f hf h24
      refine v_iload C 4 3 rfl 74 rfl (by decide +kernel) ?_
      refine v_iconst C (-1) (-1) (by decide) 75 rfl (by decide +kernel) ?_
      refine v_icmp_ne C 84 78 rfl (by decide +kernel) (fun h25 => ?_) (fun h25 => ?_)
      · have hf := ite2_f hf h25
        obtain ⟨z26, hz26, hf⟩ := bnd_e hf
        refine v_iinc C 3 (1) 2 z26 rfl (by rw [hz26]; rfl) [(3, .int z26), (0, .ref (G.1 + a0)), (2, .int x2), (4, .int x4), (5, .int x5), (6, .int x6)] (by decide) rfl 87 rfl (by decide +kernel) ?_
        refine v_goto C 13 (by decide +kernel) ?_
        refine v_sub [1, 2, 0, 3, 4] rfl ?_
        exact hkh13 σ22 a0 x2 z26 x4 x5 hk_a0 hf
      · have hf := ite2_t hf h25
        refine v_aload_n C 0 0 rfl 79 rfl (by decide +kernel) ?_
        refine v_getI C 9 27 rfl nin_9 (ns_kd_lt hk_a0 (by decide)) hk_a0 (by decide) (by decide) rfl 191 tw_1002 rfl 82 rfl (by decide +kernel) ?_
        obtain ⟨z27, hz27, hf⟩ := bnd_e hf
        refine v_nmI hz27 ?_
        refine v_istore C 4 [(4, .int z27), (0, .ref (G.1 + a0)), (2, .int x2), (3, .int x3), (5, .int x5), (6, .int x6)] (by decide) rfl 84 rfl (by decide +kernel) ?_
        obtain ⟨z28, hz28, hf⟩ := bnd_e hf
        refine v_iinc C 3 (1) 3 z28 rfl (by rw [hz28]; rfl) [(3, .int z28), (4, .int z27), (0, .ref (G.1 + a0)), (2, .int x2), (5, .int x5), (6, .int x6)] (by decide) rfl 87 rfl (by decide +kernel) ?_
        refine v_goto C 13 (by decide +kernel) ?_
        refine v_sub [2, 3, 0, 1, 4] rfl ?_
        exact hkh13 σ22 a0 x2 z28 z27 x5 hk_a0 hf
    · have hf := ite2_t hf h24
      refine v_goto C 13 (by decide +kernel) ?_
      refine v_sub [0, 1, 2, 3, 4] rfl ?_
      exact hkh13 σ22 a0 x2 x3 x4 x5 hk_a0 hf
theorem t_M_journey_13 (G : ns_G) (l : Launch) {p : Program} {e : Env} {s : State} {m : MethodId} {args : Array Value} {below : List Frame} {meth : Method} {c : Code} (C : ns_Cx G p s m args meth c prog_11_method_48_code "NinthStepModel" 7) (hr : meth.sig.returnType = (some .int)) {r : Int32} {σ' : ns_St}  : ∀ (f : Nat) (σ : ns_St) (a0 : Nat) (x2 : Int32) (x3 : Int32) (x4 : Int32) (x5 : Int32) (hk_a0 : ns_kd a0 = 9), g_M_journey_13 f σ a0 x2 x3 x4 x5 = some (r, σ') → VV G p l e { frames := 3, cells := 0, slots := 0, locals := 64 } s m args below meth c 7 0 0 (MQ below (ns_Qc G (some (.int r)) ns_N σ') args s 0 0 (ns_A G)) ns_N σ 13 [(0, .ref (G.1 + a0)), (2, .int x2), (3, .int x3), (4, .int x4), (5, .int x5)] [] := by
  intro f
  induction f with
  | zero =>
    intro σ a0 x2 x3 x4 x5 hk_a0 hf
    cases hf
  | succ f ih =>
    intro σ a0 x2 x3 x4 x5 hk_a0 hf
    rw [g_M_journey_13] at hf
    refine v_aload_n C 0 0 rfl 14 rfl (by decide +kernel) ?_
    refine v_getI C 9 27 rfl nin_9 (ns_kd_lt hk_a0 (by decide)) hk_a0 (by decide) (by decide) rfl 191 tw_1002 rfl 17 rfl (by decide +kernel) ?_
    refine v_aload_n C 0 0 rfl 18 rfl (by decide +kernel) ?_
    refine v_getI C 9 3 rfl nin_9 (ns_kd_lt hk_a0 (by decide)) hk_a0 (by decide) (by decide) rfl 59 tw_978 rfl 21 rfl (by decide +kernel) ?_
    refine v_icmp_ge C 90 24 rfl (by decide +kernel) (fun h29 => ?_) (fun h29 => ?_)
    · have hf := ite2_t hf h29
      refine v_iload_n C 2 1 rfl 91 rfl (by decide +kernel) ?_
      refine v_if_ne C 98 94 rfl (by decide +kernel) (fun h30 => ?_) (fun h30 => ?_)
      · have hf := ite2_f hf h30
        refine v_iload_n C 2 1 rfl 99 rfl (by decide +kernel) ?_
        refine v_iconst C (1) (1) (by decide) 100 rfl (by decide +kernel) ?_
        refine v_icmp_ne C 108 103 rfl (by decide +kernel) (fun h31 => ?_) (fun h31 => ?_)
        · have hf := ite2_f hf h31
          refine v_iload C 5 4 rfl 110 rfl (by decide +kernel) ?_
          obtain ⟨rfl, rfl⟩ := ret_e hf
          exact v_iret C hr (by decide +kernel)
        · have hf := ite2_t hf h31
          refine v_iload C 4 3 rfl 105 rfl (by decide +kernel) ?_
          refine v_goto C 110 (by decide +kernel) ?_
          obtain ⟨rfl, rfl⟩ := ret_e hf
          exact v_iret C hr (by decide +kernel)
      · have hf := ite2_t hf h30
        refine v_iload_n C 3 2 rfl 95 rfl (by decide +kernel) ?_
        refine v_goto C 110 (by decide +kernel) ?_
        obtain ⟨rfl, rfl⟩ := ret_e hf
        exact v_iret C hr (by decide +kernel)
    · have hf := ite2_f hf h29
      refine v_aload_n C 0 0 rfl 25 rfl (by decide +kernel) ?_
      refine v_iconst C (0) (0) (by decide) 26 rfl (by decide +kernel) ?_
      obtain ⟨r33, σ32, hcr33, hf⟩ := cl2_e hf
      refine v_cV C 9 rfl (ns_kd_lt hk_a0 (by decide)) hk_a0 (by decide) [.int (0 : Int32)] [] (c_M_stepped G l σ a0 (0 : Int32) hcr33) 208 1 tw_1246 tw_1243 tw_1245 ts_92 tw_10 hd_M_stepped rfl ⟨(Nat.le_of_ble_eq_true rfl), (Nat.le_of_ble_eq_true rfl)⟩ ⟨(Nat.le_of_ble_eq_true rfl), (Nat.le_of_ble_eq_true rfl)⟩ (Nat.le_of_ble_eq_true rfl) rfl 29 rfl (by decide +kernel) [.int r33] rfl ?_
      refine v_istore C 6 [(6, .int r33), (0, .ref (G.1 + a0)), (2, .int x2), (3, .int x3), (4, .int x4), (5, .int x5)] (by decide) rfl 31 rfl (by decide +kernel) ?_
      refine v_iload C 6 0 rfl 33 rfl (by decide +kernel) ?_
      refine v_if_ne C 52 36 rfl (by decide +kernel) (fun h34 => ?_) (fun h34 => ?_)
      · have hf := ite2_f hf h34
        refine v_sub [1, 2, 3, 4, 5, 0] rfl ?_
        exact t_M_journey_52 G l C hr ih σ32 a0 x2 x3 x4 x5 r33 hk_a0 hf
      · have hf := ite2_t hf h34
        refine v_aload_n C 0 1 rfl 37 rfl (by decide +kernel) ?_
        refine v_aload_n C 0 1 rfl 38 rfl (by decide +kernel) ?_
        refine v_getI C 9 27 rfl nin_9 (ns_kd_lt hk_a0 (by decide)) hk_a0 (by decide) (by decide) rfl 191 tw_1002 rfl 41 rfl (by decide +kernel) ?_
        refine v_bipush C (8) (8) (by decide) 43 rfl (by decide +kernel) ?_
        obtain ⟨r36, σ35, hcr36, hf⟩ := cl2_e hf
        refine v_cV C 9 rfl (ns_kd_lt hk_a0 (by decide)) hk_a0 (by decide) [.int (σ32.1 a0 27), .int (8 : Int32)] [] (c_M_isThere G l σ32 a0 (σ32.1 a0 27) (8 : Int32) hcr36) 87 2 tw_1130 tw_1127 tw_1129 ts_79 tw_10 hd_M_isThere rfl ⟨(Nat.le_of_ble_eq_true rfl), (Nat.le_of_ble_eq_true rfl)⟩ ⟨(Nat.le_of_ble_eq_true rfl), (Nat.le_of_ble_eq_true rfl)⟩ (Nat.le_of_ble_eq_true rfl) rfl 46 rfl (by decide +kernel) [.int r36] rfl ?_
        refine v_if_eq C 52 49 rfl (by decide +kernel) (fun h37 => ?_) (fun h37 => ?_)
        · have hf := ite2_t hf h37
          refine v_sub [1, 2, 3, 4, 5, 0] rfl ?_
          exact t_M_journey_52 G l C hr ih σ35 a0 x2 x3 x4 x5 r33 hk_a0 hf
        · have hf := ite2_f hf h37
          obtain ⟨z38, hz38, hf⟩ := bnd_e hf
          refine v_iinc C 5 (1) 5 z38 rfl (by rw [hz38]; rfl) [(5, .int z38), (6, .int r33), (0, .ref (G.1 + a0)), (2, .int x2), (3, .int x3), (4, .int x4)] (by decide) rfl 52 rfl (by decide +kernel) ?_
          refine v_sub [2, 3, 4, 5, 0, 1] rfl ?_
          exact t_M_journey_52 G l C hr ih σ35 a0 x2 x3 x4 z38 r33 hk_a0 hf
theorem c_M_journey (G : ns_G) (l : Launch) (σ : ns_St) (a0 : Nat) (x1 : Int32) (x2 : Int32) {r : Int32} {σ' : ns_St} (hf : g_M_journey σ a0 x1 x2 = some (r, σ')) : ns_ok G l ⟨"NinthStepModel", "journey", "(II)I"⟩ prog_11_method_48_code 7 (some .int) 3 64 0 0 [.ref (G.1 + a0), .int x1, .int x2] ns_N σ (some (.int r)) ns_N σ' := by
  refine v_open (by decide) (Nat.le_of_ble_eq_true rfl) rfl ?_
  intro p e s m below meth c C hr _
  have C : ns_Cx G p s m _ meth c prog_11_method_48_code "NinthStepModel" 7 := C
  unfold g_M_journey at hf
  obtain ⟨hk_a0, hf⟩ := grd_e hf
  refine v_iconst C (0) (0) (by decide) 1 rfl (by decide +kernel) ?_
  refine v_istore_n C 3 [(3, .int (0 : Int32)), (0, .ref (G.1 + a0)), (1, .int x1), (2, .int x2)] (by decide) rfl 2 rfl (by decide +kernel) ?_
  refine v_iconst C (-1) (-1) (by decide) 3 rfl (by decide +kernel) ?_
  refine v_istore C 4 [(4, .int (-1 : Int32)), (3, .int (0 : Int32)), (0, .ref (G.1 + a0)), (1, .int x1), (2, .int x2)] (by decide) rfl 5 rfl (by decide +kernel) ?_
  refine v_iconst C (0) (0) (by decide) 6 rfl (by decide +kernel) ?_
  refine v_istore C 5 [(5, .int (0 : Int32)), (4, .int (-1 : Int32)), (3, .int (0 : Int32)), (0, .ref (G.1 + a0)), (1, .int x1), (2, .int x2)] (by decide) rfl 8 rfl (by decide +kernel) ?_
  refine v_aload_n C 0 3 rfl 9 rfl (by decide +kernel) ?_
  refine v_iload_n C 1 4 rfl 10 rfl (by decide +kernel) ?_
  obtain ⟨r40, σ39, hcr40, hf⟩ := cl2_e hf
  refine v_cV C 9 rfl (ns_kd_lt hk_a0 (by decide)) hk_a0 (by decide) [.int x1] [] (c_M_begins G l σ a0 x1 hcr40) 205 1 tw_1242 tw_1239 tw_1241 ts_91 tw_10 hd_M_begins rfl ⟨(Nat.le_of_ble_eq_true rfl), (Nat.le_of_ble_eq_true rfl)⟩ ⟨(Nat.le_of_ble_eq_true rfl), (Nat.le_of_ble_eq_true rfl)⟩ (Nat.le_of_ble_eq_true rfl) rfl 13 rfl (by decide +kernel) [] rfl ?_
  refine v_sub [3, 5, 2, 1, 0] rfl ?_
  exact t_M_journey_13 G l C hr  ns_F σ39 a0 x2 (0 : Int32) (-1 : Int32) (0 : Int32) hk_a0 hf
theorem hd_M_journey : (⟨"NinthStepModel", "journey", "(II)I"⟩ : MethodName).cls = "NinthStepModel" ∧ (⟨"NinthStepModel", "journey", "(II)I"⟩ : MethodName).cls ≠ "java/lang/invoke/MethodHandle" ∧ (⟨"NinthStepModel", "journey", "(II)I"⟩ : MethodName).cls ≠ "java/lang/invoke/VarHandle" ∧ (parseMethodDescriptor (⟨"NinthStepModel", "journey", "(II)I"⟩ : MethodName).desc).map (fun d => d.parameters.length) = some 2 := by decide +kernel
def g_M_isGood (σ : ns_St) (a0 : Nat) (x1 : Int32) : Option (Int32 × ns_St) := grd (ns_kd a0 = 9) <| cl2 (g_M_journey σ a0 x1 (0 : Int32)) fun r8 σ7 => ite2 (r8 = 0) (cl2 (g_M_journey σ7 a0 x1 (2 : Int32)) fun r11 σ10 => ite2 (r11 = 0) (some ((1 : Int32), σ10)) (some ((0 : Int32), σ10))) (some ((0 : Int32), σ7))
theorem c_M_isGood (G : ns_G) (l : Launch) (σ : ns_St) (a0 : Nat) (x1 : Int32) {r : Int32} {σ' : ns_St} (hf : g_M_isGood σ a0 x1 = some (r, σ')) : ns_ok G l ⟨"NinthStepModel", "isGood", "(I)Z"⟩ prog_11_method_49_code 2 (some .boolean) 4 90 0 0 [.ref (G.1 + a0), .int x1] ns_N σ (some (.int r)) ns_N σ' := by
  refine v_open (by decide) (Nat.le_of_ble_eq_true rfl) rfl ?_
  intro p e s m below meth c C hr _
  have C : ns_Cx G p s m _ meth c prog_11_method_49_code "NinthStepModel" 2 := C
  unfold g_M_isGood at hf
  obtain ⟨hk_a0, hf⟩ := grd_e hf
  refine v_aload_n C 0 0 rfl 1 rfl (by decide +kernel) ?_
  refine v_iload_n C 1 1 rfl 2 rfl (by decide +kernel) ?_
  refine v_iconst C (0) (0) (by decide) 3 rfl (by decide +kernel) ?_
  obtain ⟨r8, σ7, hcr8, hf⟩ := cl2_e hf
  refine v_cV C 9 rfl (ns_kd_lt hk_a0 (by decide)) hk_a0 (by decide) [.int x1, .int (0 : Int32)] [] (c_M_journey G l σ a0 x1 (0 : Int32) hcr8) 218 2 tw_1279 tw_1276 tw_1278 ts_97 tw_10 hd_M_journey rfl ⟨(Nat.le_of_ble_eq_true rfl), (Nat.le_of_ble_eq_true rfl)⟩ ⟨(Nat.le_of_ble_eq_true rfl), (Nat.le_of_ble_eq_true rfl)⟩ (Nat.le_of_ble_eq_true rfl) rfl 6 rfl (by decide +kernel) [.int r8] rfl ?_
  refine v_if_ne C 22 9 rfl (by decide +kernel) (fun h9 => ?_) (fun h9 => ?_)
  · have hf := ite2_f hf h9
    refine v_iconst C (0) (0) (by decide) 23 rfl (by decide +kernel) ?_
    obtain ⟨rfl, rfl⟩ := ret_e hf
    exact v_zret C hr rfl (by decide +kernel)
  · have hf := ite2_t hf h9
    refine v_aload_n C 0 0 rfl 10 rfl (by decide +kernel) ?_
    refine v_iload_n C 1 1 rfl 11 rfl (by decide +kernel) ?_
    refine v_iconst C (2) (2) (by decide) 12 rfl (by decide +kernel) ?_
    obtain ⟨r11, σ10, hcr11, hf⟩ := cl2_e hf
    refine v_cV C 9 rfl (ns_kd_lt hk_a0 (by decide)) hk_a0 (by decide) [.int x1, .int (2 : Int32)] [] (c_M_journey G l σ7 a0 x1 (2 : Int32) hcr11) 218 2 tw_1279 tw_1276 tw_1278 ts_97 tw_10 hd_M_journey rfl ⟨(Nat.le_of_ble_eq_true rfl), (Nat.le_of_ble_eq_true rfl)⟩ ⟨(Nat.le_of_ble_eq_true rfl), (Nat.le_of_ble_eq_true rfl)⟩ (Nat.le_of_ble_eq_true rfl) rfl 15 rfl (by decide +kernel) [.int r11] rfl ?_
    refine v_if_ne C 22 18 rfl (by decide +kernel) (fun h12 => ?_) (fun h12 => ?_)
    · have hf := ite2_f hf h12
      refine v_iconst C (0) (0) (by decide) 23 rfl (by decide +kernel) ?_
      obtain ⟨rfl, rfl⟩ := ret_e hf
      exact v_zret C hr rfl (by decide +kernel)
    · have hf := ite2_t hf h12
      refine v_iconst C (1) (1) (by decide) 19 rfl (by decide +kernel) ?_
      refine v_goto C 23 (by decide +kernel) ?_
      obtain ⟨rfl, rfl⟩ := ret_e hf
      exact v_zret C hr rfl (by decide +kernel)
theorem hd_M_isGood : (⟨"NinthStepModel", "isGood", "(I)Z"⟩ : MethodName).cls = "NinthStepModel" ∧ (⟨"NinthStepModel", "isGood", "(I)Z"⟩ : MethodName).cls ≠ "java/lang/invoke/MethodHandle" ∧ (⟨"NinthStepModel", "isGood", "(I)Z"⟩ : MethodName).cls ≠ "java/lang/invoke/VarHandle" ∧ (parseMethodDescriptor (⟨"NinthStepModel", "isGood", "(I)Z"⟩ : MethodName).desc).map (fun d => d.parameters.length) = some 1 := by decide +kernel
def g_M_good (σ : ns_St) (a0 : Nat) (x1 : Int32) : Option (Int32 × ns_St) := grd (ns_kd a0 = 9) <| cl2 (g_M_isMule σ a0 x1) fun r10 σ9 => ite2 (r10 = 0) (cl2 (g_M_no σ9 a0 (-2 : Int32)) fun r16 σ15 => some (r16, σ15)) (cl2 (g_M_isGood σ9 a0 x1) fun r13 σ12 => ite2 (r13 = 0) (some ((0 : Int32), σ12)) (some ((1 : Int32), σ12)))
theorem c_M_good (G : ns_G) (l : Launch) (σ : ns_St) (a0 : Nat) (x1 : Int32) {r : Int32} {σ' : ns_St} (hf : g_M_good σ a0 x1 = some (r, σ')) : ns_ok G l ⟨"NinthStepModel", "good", "(I)I"⟩ prog_11_method_50_code 2 (some .int) 5 111 0 0 [.ref (G.1 + a0), .int x1] ns_N σ (some (.int r)) ns_N σ' := by
  refine v_open (by decide) (Nat.le_of_ble_eq_true rfl) rfl ?_
  intro p e s m below meth c C hr _
  have C : ns_Cx G p s m _ meth c prog_11_method_50_code "NinthStepModel" 2 := C
  unfold g_M_good at hf
  obtain ⟨hk_a0, hf⟩ := grd_e hf
  refine v_aload_n C 0 0 rfl 1 rfl (by decide +kernel) ?_
  refine v_iload_n C 1 1 rfl 2 rfl (by decide +kernel) ?_
  obtain ⟨r10, σ9, hcr10, hf⟩ := cl2_e hf
  refine v_cV C 9 rfl (ns_kd_lt hk_a0 (by decide)) hk_a0 (by decide) [.int x1] [] (c_M_isMule G l σ a0 x1 hcr10) 84 1 tw_1111 tw_1108 tw_1110 ts_76 tw_10 hd_M_isMule rfl ⟨(Nat.le_of_ble_eq_true rfl), (Nat.le_of_ble_eq_true rfl)⟩ ⟨(Nat.le_of_ble_eq_true rfl), (Nat.le_of_ble_eq_true rfl)⟩ (Nat.le_of_ble_eq_true rfl) rfl 5 rfl (by decide +kernel) [.int r10] rfl ?_
  refine v_if_ne C 15 8 rfl (by decide +kernel) (fun h11 => ?_) (fun h11 => ?_)
  · have hf := ite2_f hf h11
    refine v_aload_n C 0 0 rfl 16 rfl (by decide +kernel) ?_
    refine v_iload_n C 1 1 rfl 17 rfl (by decide +kernel) ?_
    obtain ⟨r13, σ12, hcr13, hf⟩ := cl2_e hf
    refine v_cV C 9 rfl (ns_kd_lt hk_a0 (by decide)) hk_a0 (by decide) [.int x1] [] (c_M_isGood G l σ9 a0 x1 hcr13) 221 1 tw_1275 tw_1272 tw_1274 ts_96 tw_10 hd_M_isGood rfl ⟨(Nat.le_of_ble_eq_true rfl), (Nat.le_of_ble_eq_true rfl)⟩ ⟨(Nat.le_of_ble_eq_true rfl), (Nat.le_of_ble_eq_true rfl)⟩ (Nat.le_of_ble_eq_true rfl) rfl 20 rfl (by decide +kernel) [.int r13] rfl ?_
    refine v_if_eq C 27 23 rfl (by decide +kernel) (fun h14 => ?_) (fun h14 => ?_)
    · have hf := ite2_t hf h14
      refine v_iconst C (0) (0) (by decide) 28 rfl (by decide +kernel) ?_
      obtain ⟨rfl, rfl⟩ := ret_e hf
      exact v_iret C hr (by decide +kernel)
    · have hf := ite2_f hf h14
      refine v_iconst C (1) (1) (by decide) 24 rfl (by decide +kernel) ?_
      refine v_goto C 28 (by decide +kernel) ?_
      obtain ⟨rfl, rfl⟩ := ret_e hf
      exact v_iret C hr (by decide +kernel)
  · have hf := ite2_t hf h11
    refine v_aload_n C 0 0 rfl 9 rfl (by decide +kernel) ?_
    refine v_bipush C (-2) (-2) (by decide) 11 rfl (by decide +kernel) ?_
    obtain ⟨r16, σ15, hcr16, hf⟩ := cl2_e hf
    refine v_cV C 9 rfl (ns_kd_lt hk_a0 (by decide)) hk_a0 (by decide) [.int (-2 : Int32)] [] (c_M_no G l σ9 a0 (-2 : Int32) hcr16) 73 1 tw_1079 tw_1076 tw_1078 ts_73 tw_10 hd_M_no rfl ⟨(Nat.le_of_ble_eq_true rfl), (Nat.le_of_ble_eq_true rfl)⟩ ⟨(Nat.le_of_ble_eq_true rfl), (Nat.le_of_ble_eq_true rfl)⟩ (Nat.le_of_ble_eq_true rfl) rfl 14 rfl (by decide +kernel) [.int r16] rfl ?_
    obtain ⟨rfl, rfl⟩ := ret_e hf
    exact v_iret C hr (by decide +kernel)
theorem hd_M_good : (⟨"NinthStepModel", "good", "(I)I"⟩ : MethodName).cls = "NinthStepModel" ∧ (⟨"NinthStepModel", "good", "(I)I"⟩ : MethodName).cls ≠ "java/lang/invoke/MethodHandle" ∧ (⟨"NinthStepModel", "good", "(I)I"⟩ : MethodName).cls ≠ "java/lang/invoke/VarHandle" ∧ (parseMethodDescriptor (⟨"NinthStepModel", "good", "(I)I"⟩ : MethodName).desc).map (fun d => d.parameters.length) = some 1 := by decide +kernel
def g_M_falls (σ : ns_St) (a0 : Nat) (x1 : Int32) : Option (Int32 × ns_St) := grd (ns_kd a0 = 9) <| cl2 (g_M_isMule σ a0 x1) fun r9 σ8 => ite2 (r9 = 0) (cl2 (g_M_no σ8 a0 (-2 : Int32)) fun r12 σ11 => some (r12, σ11)) (cl2 (g_M_journey σ8 a0 x1 (1 : Int32)) fun r14 σ13 => some (r14, σ13))
theorem c_M_falls (G : ns_G) (l : Launch) (σ : ns_St) (a0 : Nat) (x1 : Int32) {r : Int32} {σ' : ns_St} (hf : g_M_falls σ a0 x1 = some (r, σ')) : ns_ok G l ⟨"NinthStepModel", "falls", "(I)I"⟩ prog_11_method_51_code 2 (some .int) 4 90 0 0 [.ref (G.1 + a0), .int x1] ns_N σ (some (.int r)) ns_N σ' := by
  refine v_open (by decide) (Nat.le_of_ble_eq_true rfl) rfl ?_
  intro p e s m below meth c C hr _
  have C : ns_Cx G p s m _ meth c prog_11_method_51_code "NinthStepModel" 2 := C
  unfold g_M_falls at hf
  obtain ⟨hk_a0, hf⟩ := grd_e hf
  refine v_aload_n C 0 0 rfl 1 rfl (by decide +kernel) ?_
  refine v_iload_n C 1 1 rfl 2 rfl (by decide +kernel) ?_
  obtain ⟨r9, σ8, hcr9, hf⟩ := cl2_e hf
  refine v_cV C 9 rfl (ns_kd_lt hk_a0 (by decide)) hk_a0 (by decide) [.int x1] [] (c_M_isMule G l σ a0 x1 hcr9) 84 1 tw_1111 tw_1108 tw_1110 ts_76 tw_10 hd_M_isMule rfl ⟨(Nat.le_of_ble_eq_true rfl), (Nat.le_of_ble_eq_true rfl)⟩ ⟨(Nat.le_of_ble_eq_true rfl), (Nat.le_of_ble_eq_true rfl)⟩ (Nat.le_of_ble_eq_true rfl) rfl 5 rfl (by decide +kernel) [.int r9] rfl ?_
  refine v_if_eq C 17 8 rfl (by decide +kernel) (fun h10 => ?_) (fun h10 => ?_)
  · have hf := ite2_t hf h10
    refine v_aload_n C 0 0 rfl 18 rfl (by decide +kernel) ?_
    refine v_bipush C (-2) (-2) (by decide) 20 rfl (by decide +kernel) ?_
    obtain ⟨r12, σ11, hcr12, hf⟩ := cl2_e hf
    refine v_cV C 9 rfl (ns_kd_lt hk_a0 (by decide)) hk_a0 (by decide) [.int (-2 : Int32)] [] (c_M_no G l σ8 a0 (-2 : Int32) hcr12) 73 1 tw_1079 tw_1076 tw_1078 ts_73 tw_10 hd_M_no rfl ⟨(Nat.le_of_ble_eq_true rfl), (Nat.le_of_ble_eq_true rfl)⟩ ⟨(Nat.le_of_ble_eq_true rfl), (Nat.le_of_ble_eq_true rfl)⟩ (Nat.le_of_ble_eq_true rfl) rfl 23 rfl (by decide +kernel) [.int r12] rfl ?_
    obtain ⟨rfl, rfl⟩ := ret_e hf
    exact v_iret C hr (by decide +kernel)
  · have hf := ite2_f hf h10
    refine v_aload_n C 0 0 rfl 9 rfl (by decide +kernel) ?_
    refine v_iload_n C 1 1 rfl 10 rfl (by decide +kernel) ?_
    refine v_iconst C (1) (1) (by decide) 11 rfl (by decide +kernel) ?_
    obtain ⟨r14, σ13, hcr14, hf⟩ := cl2_e hf
    refine v_cV C 9 rfl (ns_kd_lt hk_a0 (by decide)) hk_a0 (by decide) [.int x1, .int (1 : Int32)] [] (c_M_journey G l σ8 a0 x1 (1 : Int32) hcr14) 218 2 tw_1279 tw_1276 tw_1278 ts_97 tw_10 hd_M_journey rfl ⟨(Nat.le_of_ble_eq_true rfl), (Nat.le_of_ble_eq_true rfl)⟩ ⟨(Nat.le_of_ble_eq_true rfl), (Nat.le_of_ble_eq_true rfl)⟩ (Nat.le_of_ble_eq_true rfl) rfl 14 rfl (by decide +kernel) [.int r14] rfl ?_
    refine v_goto C 23 (by decide +kernel) ?_
    obtain ⟨rfl, rfl⟩ := ret_e hf
    exact v_iret C hr (by decide +kernel)
theorem hd_M_falls : (⟨"NinthStepModel", "falls", "(I)I"⟩ : MethodName).cls = "NinthStepModel" ∧ (⟨"NinthStepModel", "falls", "(I)I"⟩ : MethodName).cls ≠ "java/lang/invoke/MethodHandle" ∧ (⟨"NinthStepModel", "falls", "(I)I"⟩ : MethodName).cls ≠ "java/lang/invoke/VarHandle" ∧ (parseMethodDescriptor (⟨"NinthStepModel", "falls", "(I)I"⟩ : MethodName).desc).map (fun d => d.parameters.length) = some 1 := by decide +kernel
def g_M_missed (σ : ns_St) (a0 : Nat) (x1 : Int32) : Option (Int32 × ns_St) := grd (ns_kd a0 = 9) <| cl2 (g_M_isMule σ a0 x1) fun r9 σ8 => ite2 (r9 = 0) (cl2 (g_M_no σ8 a0 (-2 : Int32)) fun r12 σ11 => some (r12, σ11)) (cl2 (g_M_journey σ8 a0 x1 (2 : Int32)) fun r14 σ13 => some (r14, σ13))
theorem c_M_missed (G : ns_G) (l : Launch) (σ : ns_St) (a0 : Nat) (x1 : Int32) {r : Int32} {σ' : ns_St} (hf : g_M_missed σ a0 x1 = some (r, σ')) : ns_ok G l ⟨"NinthStepModel", "missed", "(I)I"⟩ prog_11_method_52_code 2 (some .int) 4 90 0 0 [.ref (G.1 + a0), .int x1] ns_N σ (some (.int r)) ns_N σ' := by
  refine v_open (by decide) (Nat.le_of_ble_eq_true rfl) rfl ?_
  intro p e s m below meth c C hr _
  have C : ns_Cx G p s m _ meth c prog_11_method_52_code "NinthStepModel" 2 := C
  unfold g_M_missed at hf
  obtain ⟨hk_a0, hf⟩ := grd_e hf
  refine v_aload_n C 0 0 rfl 1 rfl (by decide +kernel) ?_
  refine v_iload_n C 1 1 rfl 2 rfl (by decide +kernel) ?_
  obtain ⟨r9, σ8, hcr9, hf⟩ := cl2_e hf
  refine v_cV C 9 rfl (ns_kd_lt hk_a0 (by decide)) hk_a0 (by decide) [.int x1] [] (c_M_isMule G l σ a0 x1 hcr9) 84 1 tw_1111 tw_1108 tw_1110 ts_76 tw_10 hd_M_isMule rfl ⟨(Nat.le_of_ble_eq_true rfl), (Nat.le_of_ble_eq_true rfl)⟩ ⟨(Nat.le_of_ble_eq_true rfl), (Nat.le_of_ble_eq_true rfl)⟩ (Nat.le_of_ble_eq_true rfl) rfl 5 rfl (by decide +kernel) [.int r9] rfl ?_
  refine v_if_eq C 17 8 rfl (by decide +kernel) (fun h10 => ?_) (fun h10 => ?_)
  · have hf := ite2_t hf h10
    refine v_aload_n C 0 0 rfl 18 rfl (by decide +kernel) ?_
    refine v_bipush C (-2) (-2) (by decide) 20 rfl (by decide +kernel) ?_
    obtain ⟨r12, σ11, hcr12, hf⟩ := cl2_e hf
    refine v_cV C 9 rfl (ns_kd_lt hk_a0 (by decide)) hk_a0 (by decide) [.int (-2 : Int32)] [] (c_M_no G l σ8 a0 (-2 : Int32) hcr12) 73 1 tw_1079 tw_1076 tw_1078 ts_73 tw_10 hd_M_no rfl ⟨(Nat.le_of_ble_eq_true rfl), (Nat.le_of_ble_eq_true rfl)⟩ ⟨(Nat.le_of_ble_eq_true rfl), (Nat.le_of_ble_eq_true rfl)⟩ (Nat.le_of_ble_eq_true rfl) rfl 23 rfl (by decide +kernel) [.int r12] rfl ?_
    obtain ⟨rfl, rfl⟩ := ret_e hf
    exact v_iret C hr (by decide +kernel)
  · have hf := ite2_f hf h10
    refine v_aload_n C 0 0 rfl 9 rfl (by decide +kernel) ?_
    refine v_iload_n C 1 1 rfl 10 rfl (by decide +kernel) ?_
    refine v_iconst C (2) (2) (by decide) 11 rfl (by decide +kernel) ?_
    obtain ⟨r14, σ13, hcr14, hf⟩ := cl2_e hf
    refine v_cV C 9 rfl (ns_kd_lt hk_a0 (by decide)) hk_a0 (by decide) [.int x1, .int (2 : Int32)] [] (c_M_journey G l σ8 a0 x1 (2 : Int32) hcr14) 218 2 tw_1279 tw_1276 tw_1278 ts_97 tw_10 hd_M_journey rfl ⟨(Nat.le_of_ble_eq_true rfl), (Nat.le_of_ble_eq_true rfl)⟩ ⟨(Nat.le_of_ble_eq_true rfl), (Nat.le_of_ble_eq_true rfl)⟩ (Nat.le_of_ble_eq_true rfl) rfl 14 rfl (by decide +kernel) [.int r14] rfl ?_
    refine v_goto C 23 (by decide +kernel) ?_
    obtain ⟨rfl, rfl⟩ := ret_e hf
    exact v_iret C hr (by decide +kernel)
theorem hd_M_missed : (⟨"NinthStepModel", "missed", "(I)I"⟩ : MethodName).cls = "NinthStepModel" ∧ (⟨"NinthStepModel", "missed", "(I)I"⟩ : MethodName).cls ≠ "java/lang/invoke/MethodHandle" ∧ (⟨"NinthStepModel", "missed", "(I)I"⟩ : MethodName).cls ≠ "java/lang/invoke/VarHandle" ∧ (parseMethodDescriptor (⟨"NinthStepModel", "missed", "(I)I"⟩ : MethodName).desc).map (fun d => d.parameters.length) = some 1 := by decide +kernel
