def g_TurnPlan_fewestFirst_14  : Nat → ns_St → Nat → Int32 → Int32 → Int32 → Int32 → Option (Int32 × ns_St)
  | 0, _, _, _, _, _, _ => none
  | f + 1, σ, a0, x1, x2, x3, x4 => ite2 ((3 : Int32) ≤ x4) (some ((3 : Int32), σ)) (cl2 (g_TurnPlan_needWith σ a0 x1 x2 x4) fun r13 σ12 => ite2 (r13 = x3) (some (x4, σ12)) (bnd (x4 + 1) fun z15 => (g_TurnPlan_fewestFirst_14 f) σ12 a0 x1 x2 x3 z15))
def g_TurnPlan_fewestFirst (σ : ns_St) (a0 : Nat) (x1 : Int32) (x2 : Int32) : Option (Int32 × ns_St) := grd (ns_kd a0 = 6) <| drf (σ.2.2 a0 0) fun b16 => grd (ns_kd b16 = 10) <| cl2 (g_TurnPlan_cellOf σ x1 x2) fun r18 σ17 => grd (ns_in r18 (ns_ln b16)) <| bnd (σ17.1 b16 (ns_ix r18)) fun z20 => g_TurnPlan_fewestFirst_14 ns_F σ17 a0 x1 x2 z20 (0 : Int32)
theorem t_TurnPlan_fewestFirst_14 (G : ns_G) (l : Launch) {p : Program} {e : Env} {s : State} {m : MethodId} {args : Array Value} {below : List Frame} {meth : Method} {c : Code} (C : ns_Cx G p s m args meth c prog_8_method_5_code "NinthStep$TurnPlan" 5) (hr : meth.sig.returnType = (some .int)) {r : Int32} {σ' : ns_St}  : ∀ (f : Nat) (σ : ns_St) (a0 : Nat) (x1 : Int32) (x2 : Int32) (x3 : Int32) (x4 : Int32) (hk_a0 : ns_kd a0 = 6), g_TurnPlan_fewestFirst_14 f σ a0 x1 x2 x3 x4 = some (r, σ') → VV G p l e { frames := 3, cells := 0, slots := 0, locals := 70 } s m args below meth c 5 0 0 (MQ below (ns_Qc G (some (.int r)) ns_N σ') args s 0 0 (ns_A G)) ns_N σ 14 [(0, .ref (G.1 + a0)), (1, .int x1), (2, .int x2), (3, .int x3), (4, .int x4)] [] := by
  intro f
  induction f with
  | zero =>
    intro σ a0 x1 x2 x3 x4 hk_a0 hf
    cases hf
  | succ f ih =>
    intro σ a0 x1 x2 x3 x4 hk_a0 hf
    rw [g_TurnPlan_fewestFirst_14] at hf
    refine v_iload C 4 4 rfl 16 rfl (by decide +kernel) ?_
    refine v_iconst C (3) (3) (by decide) 17 rfl (by decide +kernel) ?_
    refine v_icmp_ge C 41 20 rfl (by decide +kernel) (fun h11 => ?_) (fun h11 => ?_)
    · have hf := ite2_t hf h11
      refine v_iconst C (3) (3) (by decide) 42 rfl (by decide +kernel) ?_
      cases hf
      exact v_iret C hr (by decide +kernel)
    · have hf := ite2_f hf h11
      refine v_aload_n C 0 0 rfl 21 rfl (by decide +kernel) ?_
      refine v_iload_n C 1 1 rfl 22 rfl (by decide +kernel) ?_
      refine v_iload_n C 2 2 rfl 23 rfl (by decide +kernel) ?_
      refine v_iload C 4 4 rfl 25 rfl (by decide +kernel) ?_
      obtain ⟨r13, σ12, hcr13, hf⟩ := cl2_e hf
      refine v_cV C 6 rfl (ns_kd_lt hk_a0 (by decide)) hk_a0 (by decide) [.int x1, .int x2, .int x4] [] (c_TurnPlan_needWith G l σ a0 x1 x2 x4 hcr13) 67 3 tw_736 tw_733 tw_735 ts_42 tw_6 hd_TurnPlan_needWith rfl ⟨(Nat.le_of_ble_eq_true rfl), (Nat.le_of_ble_eq_true rfl)⟩ ⟨(Nat.le_of_ble_eq_true rfl), (Nat.le_of_ble_eq_true rfl)⟩ (Nat.le_of_ble_eq_true rfl) rfl 28 rfl (by decide +kernel) [.int r13] rfl ?_
      refine v_iload_n C 3 3 rfl 29 rfl (by decide +kernel) ?_
      refine v_icmp_ne C 35 32 rfl (by decide +kernel) (fun h14 => ?_) (fun h14 => ?_)
      · have hf := ite2_f hf h14
        obtain ⟨z15, hz15, hf⟩ := bnd_e hf
        refine v_iinc C 4 (1) 4 z15 rfl (by rw [hz15]; rfl) [(4, .int z15), (0, .ref (G.1 + a0)), (1, .int x1), (2, .int x2), (3, .int x3)] (by decide) rfl 38 rfl (by decide +kernel) ?_
        refine v_goto C 14 (by decide +kernel) ?_
        refine v_sub [1, 2, 3, 4, 0] rfl ?_
        exact ih σ12 a0 x1 x2 x3 z15 hk_a0 hf
      · have hf := ite2_t hf h14
        refine v_iload C 4 4 rfl 34 rfl (by decide +kernel) ?_
        cases hf
        exact v_iret C hr (by decide +kernel)
theorem c_TurnPlan_fewestFirst (G : ns_G) (l : Launch) (σ : ns_St) (a0 : Nat) (x1 : Int32) (x2 : Int32) {r : Int32} {σ' : ns_St} (hf : g_TurnPlan_fewestFirst σ a0 x1 x2 = some (r, σ')) : ns_ok G l ⟨"NinthStep$TurnPlan", "fewestFirst", "(II)I"⟩ prog_8_method_5_code 5 (some .int) 3 70 0 0 [.ref (G.1 + a0), .int x1, .int x2] ns_N σ (some (.int r)) ns_N σ' := by
  refine v_open (by decide) (Nat.le_of_ble_eq_true rfl) rfl ?_
  intro p e s m below meth c C hr _
  have C : ns_Cx G p s m _ meth c prog_8_method_5_code "NinthStep$TurnPlan" 5 := C
  unfold g_TurnPlan_fewestFirst at hf
  obtain ⟨hk_a0, hf⟩ := grd_e hf
  refine v_aload_n C 0 0 rfl 1 rfl (by decide +kernel) ?_
  obtain ⟨b16, hb16, hf⟩ := drf_e hf
  obtain ⟨hk_b16, hf⟩ := grd_e hf
  refine v_getR C 6 0 hb16 rfl nin_6 (ns_kd_lt hk_a0 (by decide)) hk_a0 (by decide) (by decide) rfl 11 tw_193 rfl 4 rfl (by decide +kernel) ?_
  refine v_iload_n C 1 1 rfl 5 rfl (by decide +kernel) ?_
  refine v_iload_n C 2 2 rfl 6 rfl (by decide +kernel) ?_
  obtain ⟨r18, σ17, hcr18, hf⟩ := cl2_e hf
  refine v_cS C [.int x1, .int x2] [.ref (G.1 + b16)] (c_TurnPlan_cellOf G l σ x1 x2 hcr18) 52 2 tw_721 tw_719 tw_720 tw_6 hd_TurnPlan_cellOf rfl ⟨(Nat.le_of_ble_eq_true rfl), (Nat.le_of_ble_eq_true rfl)⟩ ⟨(Nat.le_of_ble_eq_true rfl), (Nat.le_of_ble_eq_true rfl)⟩ (Nat.le_of_ble_eq_true rfl) rfl 9 rfl (by decide +kernel) [.int r18, .ref (G.1 + b16)] rfl ?_
  obtain ⟨hi19, hf⟩ := grd_e hf
  refine v_iald C (ns_kd_lt hk_b16 (by decide)) hk_b16 hi19 10 rfl (by decide +kernel) ?_
  obtain ⟨z20, hz20, hf⟩ := bnd_e hf
  refine v_nmI hz20 ?_
  refine v_istore_n C 3 [(3, .int z20), (0, .ref (G.1 + a0)), (1, .int x1), (2, .int x2)] (by decide) rfl 11 rfl (by decide +kernel) ?_
  refine v_iconst C (0) (0) (by decide) 12 rfl (by decide +kernel) ?_
  refine v_istore C 4 [(4, .int (0 : Int32)), (3, .int z20), (0, .ref (G.1 + a0)), (1, .int x1), (2, .int x2)] (by decide) rfl 14 rfl (by decide +kernel) ?_
  refine v_sub [2, 3, 4, 1, 0] rfl ?_
  exact t_TurnPlan_fewestFirst_14 G l C hr  ns_F σ17 a0 x1 x2 z20 (0 : Int32) hk_a0 hf
theorem hd_TurnPlan_fewestFirst : (⟨"NinthStep$TurnPlan", "fewestFirst", "(II)I"⟩ : MethodName).cls = "NinthStep$TurnPlan" ∧ (⟨"NinthStep$TurnPlan", "fewestFirst", "(II)I"⟩ : MethodName).cls ≠ "java/lang/invoke/MethodHandle" ∧ (⟨"NinthStep$TurnPlan", "fewestFirst", "(II)I"⟩ : MethodName).cls ≠ "java/lang/invoke/VarHandle" ∧ (parseMethodDescriptor (⟨"NinthStep$TurnPlan", "fewestFirst", "(II)I"⟩ : MethodName).desc).map (fun d => d.parameters.length) = some 2 := by decide +kernel
def g_TurnPlan_madeAt_62  (σ : ns_St) (a0 : Nat) (x1 : Int32) (x2 : Int32) : Option (Int32 × ns_St) := ite2 (x1 < (σ.1 a0 4)) (some ((0 : Int32), σ)) (drf (σ.2.2 a0 3) fun b18 => grd (ns_kd b18 = 1) <| ite2 (x1 < (σ.1 b18 0)) (some (x2, σ)) (some ((0 : Int32), σ)))
def g_TurnPlan_madeAt_13  : Nat → ns_St → Nat → Int32 → Int32 → Int32 → Int32 → Option (Int32 × ns_St)
  | 0, _, _, _, _, _, _ => none
  | f + 1, σ, a0, x1, x2, x3, x4 => ite2 (x1 < x4) (g_TurnPlan_madeAt_62 σ a0 x1 x2) (drf (σ.2.2 a0 3) fun b21 => grd (ns_kd b21 = 1) <| ite2 ((σ.1 b21 0) ≤ x4) (g_TurnPlan_madeAt_62 σ a0 x1 x2) (cl2 (g_TurnPlan_fewestFirst σ a0 x4 x3) fun r24 σ23 => cl2 (g_TurnPlan_needWith σ23 a0 x4 x3 r24) fun r26 σ25 => drf (σ25.2.2 a0 2) fun b27 => grd (ns_kd b27 = 2) <| cl2 (g_Mule_cappedCount σ25 b27) fun r29 σ28 => bnd (x4 + 1) fun z30 => (g_TurnPlan_madeAt_13 f) σ28 a0 x1 r24 r29 z30))
def g_TurnPlan_madeAt (σ : ns_St) (a0 : Nat) (x1 : Int32) : Option (Int32 × ns_St) := grd (ns_kd a0 = 6) <| bnd (σ.1 a0 5) fun z31 => bnd (σ.1 a0 4) fun z32 => g_TurnPlan_madeAt_13 ns_F σ a0 x1 (0 : Int32) z31 z32
theorem t_TurnPlan_madeAt_62 (G : ns_G) (l : Launch) {p : Program} {e : Env} {s : State} {m : MethodId} {args : Array Value} {below : List Frame} {meth : Method} {c : Code} (C : ns_Cx G p s m args meth c prog_8_method_3_code "NinthStep$TurnPlan" 5) (hr : meth.sig.returnType = (some .int)) {r : Int32} {σ' : ns_St}  (σ : ns_St) (a0 : Nat) (x1 : Int32) (x2 : Int32) (hk_a0 : ns_kd a0 = 6) (hf : g_TurnPlan_madeAt_62 σ a0 x1 x2 = some (r, σ')) : VV G p l e { frames := 4, cells := 0, slots := 0, locals := 94 } s m args below meth c 5 0 0 (MQ below (ns_Qc G (some (.int r)) ns_N σ') args s 0 0 (ns_A G)) ns_N σ 62 [(0, .ref (G.1 + a0)), (1, .int x1), (2, .int x2)] [] := by
  unfold g_TurnPlan_madeAt_62 at hf
  refine v_iload_n C 1 1 rfl 63 rfl (by decide +kernel) ?_
  refine v_aload_n C 0 0 rfl 64 rfl (by decide +kernel) ?_
  refine v_getI C 6 4 rfl nin_6 (ns_kd_lt hk_a0 (by decide)) hk_a0 (by decide) (by decide) rfl 33 tw_197 rfl 67 rfl (by decide +kernel) ?_
  refine v_icmp_lt C 81 70 rfl (by decide +kernel) (fun h17 => ?_) (fun h17 => ?_)
  · have hf := ite2_t hf h17
    refine v_iconst C (0) (0) (by decide) 82 rfl (by decide +kernel) ?_
    refine v_goto C 86 (by decide +kernel) ?_
    cases hf
    exact v_iret C hr (by decide +kernel)
  · have hf := ite2_f hf h17
    refine v_iload_n C 1 1 rfl 71 rfl (by decide +kernel) ?_
    refine v_aload_n C 0 0 rfl 72 rfl (by decide +kernel) ?_
    obtain ⟨b18, hb18, hf⟩ := drf_e hf
    obtain ⟨hk_b18, hf⟩ := grd_e hf
    refine v_getR C 6 3 hb18 rfl nin_6 (ns_kd_lt hk_a0 (by decide)) hk_a0 (by decide) (by decide) rfl 25 tw_196 rfl 75 rfl (by decide +kernel) ?_
    refine v_getIN C 1 0 rfl nin_1 (ns_kd_lt hk_b18 (by decide)) hk_b18 (by decide) (by decide) rfl 47 tw_40 rfl 78 rfl (by decide +kernel) ?_
    refine v_icmp_lt C 85 81 rfl (by decide +kernel) (fun h19 => ?_) (fun h19 => ?_)
    · have hf := ite2_t hf h19
      refine v_iload_n C 2 2 rfl 86 rfl (by decide +kernel) ?_
      cases hf
      exact v_iret C hr (by decide +kernel)
    · have hf := ite2_f hf h19
      refine v_iconst C (0) (0) (by decide) 82 rfl (by decide +kernel) ?_
      refine v_goto C 86 (by decide +kernel) ?_
      cases hf
      exact v_iret C hr (by decide +kernel)
theorem t_TurnPlan_madeAt_13 (G : ns_G) (l : Launch) {p : Program} {e : Env} {s : State} {m : MethodId} {args : Array Value} {below : List Frame} {meth : Method} {c : Code} (C : ns_Cx G p s m args meth c prog_8_method_3_code "NinthStep$TurnPlan" 5) (hr : meth.sig.returnType = (some .int)) {r : Int32} {σ' : ns_St}  : ∀ (f : Nat) (σ : ns_St) (a0 : Nat) (x1 : Int32) (x2 : Int32) (x3 : Int32) (x4 : Int32) (hk_a0 : ns_kd a0 = 6), g_TurnPlan_madeAt_13 f σ a0 x1 x2 x3 x4 = some (r, σ') → VV G p l e { frames := 4, cells := 0, slots := 0, locals := 94 } s m args below meth c 5 0 0 (MQ below (ns_Qc G (some (.int r)) ns_N σ') args s 0 0 (ns_A G)) ns_N σ 13 [(0, .ref (G.1 + a0)), (1, .int x1), (2, .int x2), (3, .int x3), (4, .int x4)] [] := by
  intro f
  induction f with
  | zero =>
    intro σ a0 x1 x2 x3 x4 hk_a0 hf
    cases hf
  | succ f ih =>
    intro σ a0 x1 x2 x3 x4 hk_a0 hf
    rw [g_TurnPlan_madeAt_13] at hf
    refine v_iload C 4 4 rfl 15 rfl (by decide +kernel) ?_
    refine v_iload_n C 1 1 rfl 16 rfl (by decide +kernel) ?_
    refine v_icmp_gt C 62 19 rfl (by decide +kernel) (fun h20 => ?_) (fun h20 => ?_)
    · have hf := ite2_t hf h20
      refine v_sub [0, 1, 2] rfl ?_
      exact t_TurnPlan_madeAt_62 G l C hr  σ a0 x1 x2 hk_a0 hf
    · have hf := ite2_f hf h20
      refine v_iload C 4 4 rfl 21 rfl (by decide +kernel) ?_
      refine v_aload_n C 0 0 rfl 22 rfl (by decide +kernel) ?_
      obtain ⟨b21, hb21, hf⟩ := drf_e hf
      obtain ⟨hk_b21, hf⟩ := grd_e hf
      refine v_getR C 6 3 hb21 rfl nin_6 (ns_kd_lt hk_a0 (by decide)) hk_a0 (by decide) (by decide) rfl 25 tw_196 rfl 25 rfl (by decide +kernel) ?_
      refine v_getIN C 1 0 rfl nin_1 (ns_kd_lt hk_b21 (by decide)) hk_b21 (by decide) (by decide) rfl 47 tw_40 rfl 28 rfl (by decide +kernel) ?_
      refine v_icmp_ge C 62 31 rfl (by decide +kernel) (fun h22 => ?_) (fun h22 => ?_)
      · have hf := ite2_t hf h22
        refine v_sub [0, 1, 2] rfl ?_
        exact t_TurnPlan_madeAt_62 G l C hr  σ a0 x1 x2 hk_a0 hf
      · have hf := ite2_f hf h22
        refine v_aload_n C 0 0 rfl 32 rfl (by decide +kernel) ?_
        refine v_iload C 4 4 rfl 34 rfl (by decide +kernel) ?_
        refine v_iload_n C 3 3 rfl 35 rfl (by decide +kernel) ?_
        obtain ⟨r24, σ23, hcr24, hf⟩ := cl2_e hf
        refine v_cV C 6 rfl (ns_kd_lt hk_a0 (by decide)) hk_a0 (by decide) [.int x4, .int x3] [] (c_TurnPlan_fewestFirst G l σ a0 x4 x3 hcr24) 64 2 tw_750 tw_747 tw_749 ts_45 tw_6 hd_TurnPlan_fewestFirst rfl ⟨(Nat.le_of_ble_eq_true rfl), (Nat.le_of_ble_eq_true rfl)⟩ ⟨(Nat.le_of_ble_eq_true rfl), (Nat.le_of_ble_eq_true rfl)⟩ (Nat.le_of_ble_eq_true rfl) rfl 38 rfl (by decide +kernel) [.int r24] rfl ?_
        refine v_istore_n C 2 [(2, .int r24), (0, .ref (G.1 + a0)), (1, .int x1), (3, .int x3), (4, .int x4)] (by decide) rfl 39 rfl (by decide +kernel) ?_
        refine v_aload_n C 0 1 rfl 40 rfl (by decide +kernel) ?_
        refine v_iload C 4 4 rfl 42 rfl (by decide +kernel) ?_
        refine v_iload_n C 3 3 rfl 43 rfl (by decide +kernel) ?_
        refine v_iload_n C 2 0 rfl 44 rfl (by decide +kernel) ?_
        obtain ⟨r26, σ25, hcr26, hf⟩ := cl2_e hf
        refine v_cV C 6 rfl (ns_kd_lt hk_a0 (by decide)) hk_a0 (by decide) [.int x4, .int x3, .int r24] [] (c_TurnPlan_needWith G l σ23 a0 x4 x3 r24 hcr26) 67 3 tw_736 tw_733 tw_735 ts_42 tw_6 hd_TurnPlan_needWith rfl ⟨(Nat.le_of_ble_eq_true rfl), (Nat.le_of_ble_eq_true rfl)⟩ ⟨(Nat.le_of_ble_eq_true rfl), (Nat.le_of_ble_eq_true rfl)⟩ (Nat.le_of_ble_eq_true rfl) rfl 47 rfl (by decide +kernel) [.int r26] rfl ?_
        refine v_pop C rfl 48 rfl (by decide +kernel) ?_
        refine v_aload_n C 0 1 rfl 49 rfl (by decide +kernel) ?_
        obtain ⟨b27, hb27, hf⟩ := drf_e hf
        obtain ⟨hk_b27, hf⟩ := grd_e hf
        refine v_getR C 6 2 hb27 rfl nin_6 (ns_kd_lt hk_a0 (by decide)) hk_a0 (by decide) (by decide) rfl 21 tw_195 rfl 52 rfl (by decide +kernel) ?_
        obtain ⟨r29, σ28, hcr29, hf⟩ := cl2_e hf
        refine v_cVN C 2 rfl (ns_kd_lt hk_b27 (by decide)) hk_b27 (by decide) [] [] (c_Mule_cappedCount G l σ25 b27 hcr29) 36 0 tw_715 tw_712 tw_714 ts_39 tw_4 hd_Mule_cappedCount rfl ⟨(Nat.le_of_ble_eq_true rfl), (Nat.le_of_ble_eq_true rfl)⟩ ⟨(Nat.le_of_ble_eq_true rfl), (Nat.le_of_ble_eq_true rfl)⟩ (Nat.le_of_ble_eq_true rfl) rfl 55 rfl (by decide +kernel) [.int r29] rfl ?_
        refine v_istore_n C 3 [(3, .int r29), (2, .int r24), (0, .ref (G.1 + a0)), (1, .int x1), (4, .int x4)] (by decide) rfl 56 rfl (by decide +kernel) ?_
        obtain ⟨z30, hz30, hf⟩ := bnd_e hf
        refine v_iinc C 4 (1) 4 z30 rfl (by rw [hz30]; rfl) [(4, .int z30), (3, .int r29), (2, .int r24), (0, .ref (G.1 + a0)), (1, .int x1)] (by decide) rfl 59 rfl (by decide +kernel) ?_
        refine v_goto C 13 (by decide +kernel) ?_
        refine v_sub [3, 4, 2, 1, 0] rfl ?_
        exact ih σ28 a0 x1 r24 r29 z30 hk_a0 hf
theorem c_TurnPlan_madeAt (G : ns_G) (l : Launch) (σ : ns_St) (a0 : Nat) (x1 : Int32) {r : Int32} {σ' : ns_St} (hf : g_TurnPlan_madeAt σ a0 x1 = some (r, σ')) : ns_ok G l ⟨"NinthStep$TurnPlan", "madeAt", "(I)I"⟩ prog_8_method_3_code 5 (some .int) 4 94 0 0 [.ref (G.1 + a0), .int x1] ns_N σ (some (.int r)) ns_N σ' := by
  refine v_open (by decide) (Nat.le_of_ble_eq_true rfl) rfl ?_
  intro p e s m below meth c C hr _
  have C : ns_Cx G p s m _ meth c prog_8_method_3_code "NinthStep$TurnPlan" 5 := C
  unfold g_TurnPlan_madeAt at hf
  obtain ⟨hk_a0, hf⟩ := grd_e hf
  refine v_iconst C (0) (0) (by decide) 1 rfl (by decide +kernel) ?_
  refine v_istore_n C 2 [(2, .int (0 : Int32)), (0, .ref (G.1 + a0)), (1, .int x1)] (by decide) rfl 2 rfl (by decide +kernel) ?_
  refine v_aload_n C 0 1 rfl 3 rfl (by decide +kernel) ?_
  refine v_getI C 6 5 rfl nin_6 (ns_kd_lt hk_a0 (by decide)) hk_a0 (by decide) (by decide) rfl 40 tw_198 rfl 6 rfl (by decide +kernel) ?_
  obtain ⟨z31, hz31, hf⟩ := bnd_e hf
  refine v_nmI hz31 ?_
  refine v_istore_n C 3 [(3, .int z31), (2, .int (0 : Int32)), (0, .ref (G.1 + a0)), (1, .int x1)] (by decide) rfl 7 rfl (by decide +kernel) ?_
  refine v_aload_n C 0 2 rfl 8 rfl (by decide +kernel) ?_
  refine v_getI C 6 4 rfl nin_6 (ns_kd_lt hk_a0 (by decide)) hk_a0 (by decide) (by decide) rfl 33 tw_197 rfl 11 rfl (by decide +kernel) ?_
  obtain ⟨z32, hz32, hf⟩ := bnd_e hf
  refine v_nmI hz32 ?_
  refine v_istore C 4 [(4, .int z32), (3, .int z31), (2, .int (0 : Int32)), (0, .ref (G.1 + a0)), (1, .int x1)] (by decide) rfl 13 rfl (by decide +kernel) ?_
  refine v_sub [3, 4, 2, 1, 0] rfl ?_
  exact t_TurnPlan_madeAt_13 G l C hr  ns_F σ a0 x1 (0 : Int32) z31 z32 hk_a0 hf
theorem hd_TurnPlan_madeAt : (⟨"NinthStep$TurnPlan", "madeAt", "(I)I"⟩ : MethodName).cls = "NinthStep$TurnPlan" ∧ (⟨"NinthStep$TurnPlan", "madeAt", "(I)I"⟩ : MethodName).cls ≠ "java/lang/invoke/MethodHandle" ∧ (⟨"NinthStep$TurnPlan", "madeAt", "(I)I"⟩ : MethodName).cls ≠ "java/lang/invoke/VarHandle" ∧ (parseMethodDescriptor (⟨"NinthStep$TurnPlan", "madeAt", "(I)I"⟩ : MethodName).desc).map (fun d => d.parameters.length) = some 1 := by decide +kernel
def g_N_turns_33  (σ : ns_St) (a0 : Nat) (x2 : Int32) (a3 : Nat) : Option (Int32 × ns_St) := cl2 (g_N_stopsOf σ a0 a3) fun r29 σ28 => cl2 (g_N_isGood σ28 a0 (σ.1 a3 2) r29) fun r31 σ30 => ite2 (r31 = 0) (drf (σ30.2.2 a0 5) fun b33 => grd (ns_kd b33 = 6) <| drf (σ30.2.2 a0 0) fun b34 => grd (ns_kd b34 = 7) <| drf (σ30.2.2 b34 0) fun b35 => grd (ns_kd b35 = 1) <| cl2 (g_TurnPlan_make σ30 b33 a3 b35) fun r37 σ36 => ite2 (r37 = (-1 : Int32)) (some (r37, σ36)) (ite2 (x2 = (-1 : Int32)) (some (r37, σ36)) (drf (σ36.2.2 a0 5) fun b40 => grd (ns_kd b40 = 6) <| cl2 (g_TurnPlan_madeAt σ36 b40 x2) fun r42 σ41 => some (r42, σ41)))) (some ((0 : Int32), σ30))
def g_N_turns (σ : ns_St) (a0 : Nat) (x1 : Int32) (x2 : Int32) : Option (Int32 × ns_St) := grd (ns_kd a0 = 8) <| drf (σ.2.2 a0 0) fun b43 => grd (ns_kd b43 = 7) <| cl2 (g_World_muleAt σ b43 x1) fun r45 σ44 => onul r45 (cl2 (g_N_refuse σ44 a0 (-2 : Int32)) fun r48 σ47 => some (r48, σ47)) (fun b46 => grd (ns_kd b46 = 2) <| ite2 (x2 = (-1 : Int32)) (g_N_turns_33 σ44 a0 x2 b46) (cl2 (g_N_isPlace σ44 a0 x2) fun r51 σ50 => ite2 (r51 = 0) (cl2 (g_N_refuse σ50 a0 (-2 : Int32)) fun r54 σ53 => some (r54, σ53)) (g_N_turns_33 σ50 a0 x2 b46)))
theorem t_N_turns_33 (G : ns_G) (l : Launch) {p : Program} {e : Env} {s : State} {m : MethodId} {args : Array Value} {below : List Frame} {meth : Method} {c : Code} (C : ns_Cx G p s m args meth c prog_1_method_26_code "NinthStep" 5) (hr : meth.sig.returnType = (some .int)) {r : Int32} {σ' : ns_St}  (σ : ns_St) (a0 : Nat) (x2 : Int32) (a3 : Nat) (hk_a0 : ns_kd a0 = 8) (hk_a3 : ns_kd a3 = 2) (hf : g_N_turns_33 σ a0 x2 a3 = some (r, σ')) : VV G p l e { frames := 5, cells := 0, slots := 0, locals := 118 } s m args below meth c 5 0 0 (MQ below (ns_Qc G (some (.int r)) ns_N σ') args s 0 0 (ns_A G)) ns_N σ 33 [(0, .ref (G.1 + a0)), (2, .int x2), (3, .ref (G.1 + a3))] [] := by
  unfold g_N_turns_33 at hf
  refine v_aload_n C 0 0 rfl 34 rfl (by decide +kernel) ?_
  refine v_aload_n C 3 2 rfl 35 rfl (by decide +kernel) ?_
  refine v_getIN C 2 2 rfl nin_2 (ns_kd_lt hk_a3 (by decide)) hk_a3 (by decide) (by decide) rfl 179 tw_93 rfl 38 rfl (by decide +kernel) ?_
  refine v_aload_n C 0 0 rfl 39 rfl (by decide +kernel) ?_
  refine v_aload_n C 3 2 rfl 40 rfl (by decide +kernel) ?_
  obtain ⟨r29, σ28, hcr29, hf⟩ := cl2_e hf
  refine v_cV C 8 rfl (ns_kd_lt hk_a0 (by decide)) hk_a0 (by decide) [.ref (G.1 + a3)] [.int (σ.1 a3 2), .ref (G.1 + a0)] (c_N_stopsOf G l σ a0 a3 hcr29) 209 1 tw_643 tw_640 tw_642 ts_29 tw_1 hd_N_stopsOf rfl ⟨(Nat.le_of_ble_eq_true rfl), (Nat.le_of_ble_eq_true rfl)⟩ ⟨(Nat.le_of_ble_eq_true rfl), (Nat.le_of_ble_eq_true rfl)⟩ (Nat.le_of_ble_eq_true rfl) rfl 43 rfl (by decide +kernel) [.long r29, .int (σ.1 a3 2), .ref (G.1 + a0)] rfl ?_
  obtain ⟨r31, σ30, hcr31, hf⟩ := cl2_e hf
  refine v_cV C 8 rfl (ns_kd_lt hk_a0 (by decide)) hk_a0 (by decide) [.int (σ.1 a3 2), .long r29] [] (c_N_isGood G l σ28 a0 (σ.1 a3 2) r29 hcr31) 230 2 tw_690 tw_687 tw_689 ts_36 tw_1 hd_N_isGood rfl ⟨(Nat.le_of_ble_eq_true rfl), (Nat.le_of_ble_eq_true rfl)⟩ ⟨(Nat.le_of_ble_eq_true rfl), (Nat.le_of_ble_eq_true rfl)⟩ (Nat.le_of_ble_eq_true rfl) rfl 46 rfl (by decide +kernel) [.int r31] rfl ?_
  refine v_if_eq C 51 49 rfl (by decide +kernel) (fun h32 => ?_) (fun h32 => ?_)
  · have hf := ite2_t hf h32
    refine v_aload_n C 0 0 rfl 52 rfl (by decide +kernel) ?_
    obtain ⟨b33, hb33, hf⟩ := drf_e hf
    obtain ⟨hk_b33, hf⟩ := grd_e hf
    refine v_getR C 8 5 hb33 rfl nin_8 (ns_kd_lt hk_a0 (by decide)) hk_a0 (by decide) (by decide) rfl 38 tw_292 rfl 55 rfl (by decide +kernel) ?_
    refine v_aload_n C 3 2 rfl 56 rfl (by decide +kernel) ?_
    refine v_aload_n C 0 0 rfl 57 rfl (by decide +kernel) ?_
    obtain ⟨b34, hb34, hf⟩ := drf_e hf
    obtain ⟨hk_b34, hf⟩ := grd_e hf
    refine v_getR C 8 0 hb34 rfl nin_8 (ns_kd_lt hk_a0 (by decide)) hk_a0 (by decide) (by decide) rfl 12 tw_287 rfl 60 rfl (by decide +kernel) ?_
    obtain ⟨b35, hb35, hf⟩ := drf_e hf
    obtain ⟨hk_b35, hf⟩ := grd_e hf
    refine v_getRN C 7 0 hb35 rfl nin_7 (ns_kd_lt hk_b34 (by decide)) hk_b34 (by decide) (by decide) rfl 138 tw_128 rfl 63 rfl (by decide +kernel) ?_
    obtain ⟨r37, σ36, hcr37, hf⟩ := cl2_e hf
    refine v_cVN C 6 rfl (ns_kd_lt hk_b33 (by decide)) hk_b33 (by decide) [.ref (G.1 + a3), .ref (G.1 + b35)] [] (c_TurnPlan_make G l σ30 b33 a3 b35 hcr37) 245 2 tw_711 tw_708 tw_710 ts_38 tw_6 hd_TurnPlan_make rfl ⟨(Nat.le_of_ble_eq_true rfl), (Nat.le_of_ble_eq_true rfl)⟩ ⟨(Nat.le_of_ble_eq_true rfl), (Nat.le_of_ble_eq_true rfl)⟩ (Nat.le_of_ble_eq_true rfl) rfl 66 rfl (by decide +kernel) [.int r37] rfl ?_
    refine v_istore C 4 [(4, .int r37), (0, .ref (G.1 + a0)), (2, .int x2), (3, .ref (G.1 + a3))] (by decide) rfl 68 rfl (by decide +kernel) ?_
    refine v_iload C 4 0 rfl 70 rfl (by decide +kernel) ?_
    refine v_iconst C (-1) (-1) (by decide) 71 rfl (by decide +kernel) ?_
    refine v_icmp_eq C 79 74 rfl (by decide +kernel) (fun h38 => ?_) (fun h38 => ?_)
    · have hf := ite2_t hf h38
      refine v_iload C 4 0 rfl 81 rfl (by decide +kernel) ?_
      cases hf
      exact v_iret C hr (by decide +kernel)
    · have hf := ite2_f hf h38
      refine v_iload_n C 2 2 rfl 75 rfl (by decide +kernel) ?_
      refine v_iconst C (-1) (-1) (by decide) 76 rfl (by decide +kernel) ?_
      refine v_icmp_ne C 82 79 rfl (by decide +kernel) (fun h39 => ?_) (fun h39 => ?_)
      · have hf := ite2_f hf h39
        refine v_aload_n C 0 1 rfl 83 rfl (by decide +kernel) ?_
        obtain ⟨b40, hb40, hf⟩ := drf_e hf
        obtain ⟨hk_b40, hf⟩ := grd_e hf
        refine v_getR C 8 5 hb40 rfl nin_8 (ns_kd_lt hk_a0 (by decide)) hk_a0 (by decide) (by decide) rfl 38 tw_292 rfl 86 rfl (by decide +kernel) ?_
        refine v_iload_n C 2 2 rfl 87 rfl (by decide +kernel) ?_
        obtain ⟨r42, σ41, hcr42, hf⟩ := cl2_e hf
        refine v_cVN C 6 rfl (ns_kd_lt hk_b40 (by decide)) hk_b40 (by decide) [.int x2] [] (c_TurnPlan_madeAt G l σ36 b40 x2 hcr42) 249 1 tw_746 tw_743 tw_745 ts_44 tw_6 hd_TurnPlan_madeAt rfl ⟨(Nat.le_of_ble_eq_true rfl), (Nat.le_of_ble_eq_true rfl)⟩ ⟨(Nat.le_of_ble_eq_true rfl), (Nat.le_of_ble_eq_true rfl)⟩ (Nat.le_of_ble_eq_true rfl) rfl 90 rfl (by decide +kernel) [.int r42] rfl ?_
        cases hf
        exact v_iret C hr (by decide +kernel)
      · have hf := ite2_t hf h39
        refine v_iload C 4 0 rfl 81 rfl (by decide +kernel) ?_
        cases hf
        exact v_iret C hr (by decide +kernel)
  · have hf := ite2_f hf h32
    refine v_iconst C (0) (0) (by decide) 50 rfl (by decide +kernel) ?_
    cases hf
    exact v_iret C hr (by decide +kernel)
theorem c_N_turns (G : ns_G) (l : Launch) (σ : ns_St) (a0 : Nat) (x1 : Int32) (x2 : Int32) {r : Int32} {σ' : ns_St} (hf : g_N_turns σ a0 x1 x2 = some (r, σ')) : ns_ok G l ⟨"NinthStep", "turns", "(II)I"⟩ prog_1_method_26_code 5 (some .int) 5 118 0 0 [.ref (G.1 + a0), .int x1, .int x2] ns_N σ (some (.int r)) ns_N σ' := by
  refine v_open (by decide) (Nat.le_of_ble_eq_true rfl) rfl ?_
  intro p e s m below meth c C hr _
  have C : ns_Cx G p s m _ meth c prog_1_method_26_code "NinthStep" 5 := C
  unfold g_N_turns at hf
  obtain ⟨hk_a0, hf⟩ := grd_e hf
  refine v_aload_n C 0 0 rfl 1 rfl (by decide +kernel) ?_
  obtain ⟨b43, hb43, hf⟩ := drf_e hf
  obtain ⟨hk_b43, hf⟩ := grd_e hf
  refine v_getR C 8 0 hb43 rfl nin_8 (ns_kd_lt hk_a0 (by decide)) hk_a0 (by decide) (by decide) rfl 12 tw_287 rfl 4 rfl (by decide +kernel) ?_
  refine v_iload_n C 1 1 rfl 5 rfl (by decide +kernel) ?_
  obtain ⟨r45, σ44, hcr45, hf⟩ := cl2_e hf
  rcases r45 with _ | b46
  · have hf := onul_n hf
    refine v_cVN C 7 rfl (ns_kd_lt hk_b43 (by decide)) hk_b43 (by decide) [.int x1] [] (c_World_muleAt G l σ b43 x1 hcr45) 120 1 tw_390 tw_387 tw_389 ts_7 tw_2 hd_World_muleAt rfl ⟨(Nat.le_of_ble_eq_true rfl), (Nat.le_of_ble_eq_true rfl)⟩ ⟨(Nat.le_of_ble_eq_true rfl), (Nat.le_of_ble_eq_true rfl)⟩ (Nat.le_of_ble_eq_true rfl) rfl 8 rfl (by decide +kernel) [.null] rfl ?_
    refine v_astore_nN C 3 [(3, .null), (0, .ref (G.1 + a0)), (1, .int x1), (2, .int x2)] (by decide) rfl 9 rfl (by decide +kernel) ?_
    refine v_aload_nN C 3 0 rfl 10 rfl (by decide +kernel) ?_
    refine v_ifnullN C 26 (by decide +kernel) ?_
    refine v_aload_n C 0 1 rfl 27 rfl (by decide +kernel) ?_
    refine v_bipush C (-2) (-2) (by decide) 29 rfl (by decide +kernel) ?_
    obtain ⟨r48, σ47, hcr48, hf⟩ := cl2_e hf
    refine v_cV C 8 rfl (ns_kd_lt hk_a0 (by decide)) hk_a0 (by decide) [.int (-2 : Int32)] [] (c_N_refuse G l σ44 a0 (-2 : Int32) hcr48) 79 1 tw_338 tw_335 tw_337 ts_1 tw_1 hd_N_refuse rfl ⟨(Nat.le_of_ble_eq_true rfl), (Nat.le_of_ble_eq_true rfl)⟩ ⟨(Nat.le_of_ble_eq_true rfl), (Nat.le_of_ble_eq_true rfl)⟩ (Nat.le_of_ble_eq_true rfl) rfl 32 rfl (by decide +kernel) [.int r48] rfl ?_
    cases hf
    exact v_iret C hr (by decide +kernel)
  · have hf := onul_s hf
    obtain ⟨hk_b46, hf⟩ := grd_e hf
    refine v_cVN C 7 rfl (ns_kd_lt hk_b43 (by decide)) hk_b43 (by decide) [.int x1] [] (c_World_muleAt G l σ b43 x1 hcr45) 120 1 tw_390 tw_387 tw_389 ts_7 tw_2 hd_World_muleAt rfl ⟨(Nat.le_of_ble_eq_true rfl), (Nat.le_of_ble_eq_true rfl)⟩ ⟨(Nat.le_of_ble_eq_true rfl), (Nat.le_of_ble_eq_true rfl)⟩ (Nat.le_of_ble_eq_true rfl) rfl 8 rfl (by decide +kernel) [.ref (G.1 + b46)] rfl ?_
    refine v_astore_n C 3 [(3, .ref (G.1 + b46)), (0, .ref (G.1 + a0)), (1, .int x1), (2, .int x2)] (by decide) rfl 9 rfl (by decide +kernel) ?_
    refine v_aload_n C 3 0 rfl 10 rfl (by decide +kernel) ?_
    refine v_ifnull C 26 13 rfl (by decide +kernel) ?_
    refine v_iload_n C 2 3 rfl 14 rfl (by decide +kernel) ?_
    refine v_iconst C (-1) (-1) (by decide) 15 rfl (by decide +kernel) ?_
    refine v_icmp_eq C 33 18 rfl (by decide +kernel) (fun h49 => ?_) (fun h49 => ?_)
    · have hf := ite2_t hf h49
      refine v_sub [1, 3, 0] rfl ?_
      exact t_N_turns_33 G l C hr  σ44 a0 x2 b46 hk_a0 hk_b46 hf
    · have hf := ite2_f hf h49
      refine v_aload_n C 0 1 rfl 19 rfl (by decide +kernel) ?_
      refine v_iload_n C 2 3 rfl 20 rfl (by decide +kernel) ?_
      obtain ⟨r51, σ50, hcr51, hf⟩ := cl2_e hf
      refine v_cV C 8 rfl (ns_kd_lt hk_a0 (by decide)) hk_a0 (by decide) [.int x2] [] (c_N_isPlace G l σ44 a0 x2 hcr51) 150 1 tw_448 tw_445 tw_447 ts_10 tw_1 hd_N_isPlace rfl ⟨(Nat.le_of_ble_eq_true rfl), (Nat.le_of_ble_eq_true rfl)⟩ ⟨(Nat.le_of_ble_eq_true rfl), (Nat.le_of_ble_eq_true rfl)⟩ (Nat.le_of_ble_eq_true rfl) rfl 23 rfl (by decide +kernel) [.int r51] rfl ?_
      refine v_if_ne C 33 26 rfl (by decide +kernel) (fun h52 => ?_) (fun h52 => ?_)
      · have hf := ite2_f hf h52
        refine v_sub [1, 3, 0] rfl ?_
        exact t_N_turns_33 G l C hr  σ50 a0 x2 b46 hk_a0 hk_b46 hf
      · have hf := ite2_t hf h52
        refine v_aload_n C 0 1 rfl 27 rfl (by decide +kernel) ?_
        refine v_bipush C (-2) (-2) (by decide) 29 rfl (by decide +kernel) ?_
        obtain ⟨r54, σ53, hcr54, hf⟩ := cl2_e hf
        refine v_cV C 8 rfl (ns_kd_lt hk_a0 (by decide)) hk_a0 (by decide) [.int (-2 : Int32)] [] (c_N_refuse G l σ50 a0 (-2 : Int32) hcr54) 79 1 tw_338 tw_335 tw_337 ts_1 tw_1 hd_N_refuse rfl ⟨(Nat.le_of_ble_eq_true rfl), (Nat.le_of_ble_eq_true rfl)⟩ ⟨(Nat.le_of_ble_eq_true rfl), (Nat.le_of_ble_eq_true rfl)⟩ (Nat.le_of_ble_eq_true rfl) rfl 32 rfl (by decide +kernel) [.int r54] rfl ?_
        cases hf
        exact v_iret C hr (by decide +kernel)
theorem hd_N_turns : (⟨"NinthStep", "turns", "(II)I"⟩ : MethodName).cls = "NinthStep" ∧ (⟨"NinthStep", "turns", "(II)I"⟩ : MethodName).cls ≠ "java/lang/invoke/MethodHandle" ∧ (⟨"NinthStep", "turns", "(II)I"⟩ : MethodName).cls ≠ "java/lang/invoke/VarHandle" ∧ (parseMethodDescriptor (⟨"NinthStep", "turns", "(II)I"⟩ : MethodName).desc).map (fun d => d.parameters.length) = some 2 := by decide +kernel
def g_N_roped (σ : ns_St) (a0 : Nat) (x1 : Int32) (x2 : Int32) (x3 : Int32) : Option (Int32 × ns_St) := grd (ns_kd a0 = 8) <| drf (σ.2.2 a0 0) fun b38 => grd (ns_kd b38 = 7) <| cl2 (g_World_muleAt σ b38 x1) fun r40 σ39 => onul r40 (drf (σ39.2.2 a0 0) fun b42 => grd (ns_kd b42 = 7) <| cl2 (g_World_muleAt σ39 b42 x2) fun r44 σ43 => onul r44 (cl2 (g_N_refuse σ43 a0 (-2 : Int32)) fun r47 σ46 => some (r47, σ46)) (fun b45 => grd (ns_kd b45 = 2) <| cl2 (g_N_refuse σ43 a0 (-2 : Int32)) fun r49 σ48 => some (r49, σ48))) (fun b41 => grd (ns_kd b41 = 2) <| drf (σ39.2.2 a0 0) fun b50 => grd (ns_kd b50 = 7) <| cl2 (g_World_muleAt σ39 b50 x2) fun r52 σ51 => onul r52 (cl2 (g_N_refuse σ51 a0 (-2 : Int32)) fun r55 σ54 => some (r55, σ54)) (fun b53 => grd (ns_kd b53 = 2) <| ite2 (x1 = x2) (cl2 (g_N_refuse σ51 a0 (-2 : Int32)) fun r58 σ57 => some (r58, σ57)) (cl2 (g_N_isWithin σ51 x3 (0 : Int32) (1 : Int32)) fun r60 σ59 => ite2 (r60 = 0) (cl2 (g_N_refuse σ59 a0 (-2 : Int32)) fun r74 σ73 => some (r74, σ73)) (cl2 (g_Math_max σ59 (σ59.1 b41 2) (σ59.1 b53 2)) fun r63 σ62 => cl2 (g_N_stopsBy σ62 a0 b41 r63 (σ62.1 b41 1) (σ62.1 b41 3)) fun r65 σ64 => cl2 (g_N_stopsBy σ64 a0 b53 r63 (σ64.1 b53 1) (σ64.1 b53 3)) fun r67 σ66 => ite2 (x3 = 0) (cl2 (g_Long_bitCount σ66 (r65 ||| r67)) fun r72 σ71 => some (r72, σ71)) (cl2 (g_N_firstOf σ66 (r65 &&& r67)) fun r70 σ69 => some (r70, σ69))))))
theorem c_N_roped (G : ns_G) (l : Launch) (σ : ns_St) (a0 : Nat) (x1 : Int32) (x2 : Int32) (x3 : Int32) {r : Int32} {σ' : ns_St} (hf : g_N_roped σ a0 x1 x2 x3 = some (r, σ')) : ns_ok G l ⟨"NinthStep", "roped", "(III)I"⟩ prog_1_method_27_code 11 (some .int) 3 72 0 0 [.ref (G.1 + a0), .int x1, .int x2, .int x3] ns_N σ (some (.int r)) ns_N σ' := by
  refine v_open (by decide) (Nat.le_of_ble_eq_true rfl) rfl ?_
  intro p e s m below meth c C hr _
  have C : ns_Cx G p s m _ meth c prog_1_method_27_code "NinthStep" 11 := C
  unfold g_N_roped at hf
  obtain ⟨hk_a0, hf⟩ := grd_e hf
  refine v_aload_n C 0 0 rfl 1 rfl (by decide +kernel) ?_
  obtain ⟨b38, hb38, hf⟩ := drf_e hf
  obtain ⟨hk_b38, hf⟩ := grd_e hf
  refine v_getR C 8 0 hb38 rfl nin_8 (ns_kd_lt hk_a0 (by decide)) hk_a0 (by decide) (by decide) rfl 12 tw_287 rfl 4 rfl (by decide +kernel) ?_
  refine v_iload_n C 1 1 rfl 5 rfl (by decide +kernel) ?_
  obtain ⟨r40, σ39, hcr40, hf⟩ := cl2_e hf
  rcases r40 with _ | b41
  · have hf := onul_n hf
    refine v_cVN C 7 rfl (ns_kd_lt hk_b38 (by decide)) hk_b38 (by decide) [.int x1] [] (c_World_muleAt G l σ b38 x1 hcr40) 120 1 tw_390 tw_387 tw_389 ts_7 tw_2 hd_World_muleAt rfl ⟨(Nat.le_of_ble_eq_true rfl), (Nat.le_of_ble_eq_true rfl)⟩ ⟨(Nat.le_of_ble_eq_true rfl), (Nat.le_of_ble_eq_true rfl)⟩ (Nat.le_of_ble_eq_true rfl) rfl 8 rfl (by decide +kernel) [.null] rfl ?_
    refine v_astoreN C 4 [(4, .null), (0, .ref (G.1 + a0)), (1, .int x1), (2, .int x2), (3, .int x3)] (by decide) rfl 10 rfl (by decide +kernel) ?_
    refine v_aload_n C 0 1 rfl 11 rfl (by decide +kernel) ?_
    obtain ⟨b42, hb42, hf⟩ := drf_e hf
    obtain ⟨hk_b42, hf⟩ := grd_e hf
    refine v_getR C 8 0 hb42 rfl nin_8 (ns_kd_lt hk_a0 (by decide)) hk_a0 (by decide) (by decide) rfl 12 tw_287 rfl 14 rfl (by decide +kernel) ?_
    refine v_iload_n C 2 3 rfl 15 rfl (by decide +kernel) ?_
    obtain ⟨r44, σ43, hcr44, hf⟩ := cl2_e hf
    rcases r44 with _ | b45
    · have hf := onul_n hf
      refine v_cVN C 7 rfl (ns_kd_lt hk_b42 (by decide)) hk_b42 (by decide) [.int x2] [] (c_World_muleAt G l σ39 b42 x2 hcr44) 120 1 tw_390 tw_387 tw_389 ts_7 tw_2 hd_World_muleAt rfl ⟨(Nat.le_of_ble_eq_true rfl), (Nat.le_of_ble_eq_true rfl)⟩ ⟨(Nat.le_of_ble_eq_true rfl), (Nat.le_of_ble_eq_true rfl)⟩ (Nat.le_of_ble_eq_true rfl) rfl 18 rfl (by decide +kernel) [.null] rfl ?_
      refine v_astoreN C 5 [(5, .null), (4, .null), (0, .ref (G.1 + a0)), (1, .int x1), (2, .int x2), (3, .int x3)] (by decide) rfl 20 rfl (by decide +kernel) ?_
      refine v_aloadN C 4 1 rfl 22 rfl (by decide +kernel) ?_
      refine v_ifnullN C 44 (by decide +kernel) ?_
      refine v_aload_n C 0 2 rfl 45 rfl (by decide +kernel) ?_
      refine v_bipush C (-2) (-2) (by decide) 47 rfl (by decide +kernel) ?_
      obtain ⟨r47, σ46, hcr47, hf⟩ := cl2_e hf
      refine v_cV C 8 rfl (ns_kd_lt hk_a0 (by decide)) hk_a0 (by decide) [.int (-2 : Int32)] [] (c_N_refuse G l σ43 a0 (-2 : Int32) hcr47) 79 1 tw_338 tw_335 tw_337 ts_1 tw_1 hd_N_refuse rfl ⟨(Nat.le_of_ble_eq_true rfl), (Nat.le_of_ble_eq_true rfl)⟩ ⟨(Nat.le_of_ble_eq_true rfl), (Nat.le_of_ble_eq_true rfl)⟩ (Nat.le_of_ble_eq_true rfl) rfl 50 rfl (by decide +kernel) [.int r47] rfl ?_
      cases hf
      exact v_iret C hr (by decide +kernel)
    · have hf := onul_s hf
      obtain ⟨hk_b45, hf⟩ := grd_e hf
      refine v_cVN C 7 rfl (ns_kd_lt hk_b42 (by decide)) hk_b42 (by decide) [.int x2] [] (c_World_muleAt G l σ39 b42 x2 hcr44) 120 1 tw_390 tw_387 tw_389 ts_7 tw_2 hd_World_muleAt rfl ⟨(Nat.le_of_ble_eq_true rfl), (Nat.le_of_ble_eq_true rfl)⟩ ⟨(Nat.le_of_ble_eq_true rfl), (Nat.le_of_ble_eq_true rfl)⟩ (Nat.le_of_ble_eq_true rfl) rfl 18 rfl (by decide +kernel) [.ref (G.1 + b45)] rfl ?_
      refine v_astore C 5 [(5, .ref (G.1 + b45)), (4, .null), (0, .ref (G.1 + a0)), (1, .int x1), (2, .int x2), (3, .int x3)] (by decide) rfl 20 rfl (by decide +kernel) ?_
      refine v_aloadN C 4 1 rfl 22 rfl (by decide +kernel) ?_
      refine v_ifnullN C 44 (by decide +kernel) ?_
      refine v_aload_n C 0 2 rfl 45 rfl (by decide +kernel) ?_
      refine v_bipush C (-2) (-2) (by decide) 47 rfl (by decide +kernel) ?_
      obtain ⟨r49, σ48, hcr49, hf⟩ := cl2_e hf
      refine v_cV C 8 rfl (ns_kd_lt hk_a0 (by decide)) hk_a0 (by decide) [.int (-2 : Int32)] [] (c_N_refuse G l σ43 a0 (-2 : Int32) hcr49) 79 1 tw_338 tw_335 tw_337 ts_1 tw_1 hd_N_refuse rfl ⟨(Nat.le_of_ble_eq_true rfl), (Nat.le_of_ble_eq_true rfl)⟩ ⟨(Nat.le_of_ble_eq_true rfl), (Nat.le_of_ble_eq_true rfl)⟩ (Nat.le_of_ble_eq_true rfl) rfl 50 rfl (by decide +kernel) [.int r49] rfl ?_
      cases hf
      exact v_iret C hr (by decide +kernel)
  · have hf := onul_s hf
    obtain ⟨hk_b41, hf⟩ := grd_e hf
    refine v_cVN C 7 rfl (ns_kd_lt hk_b38 (by decide)) hk_b38 (by decide) [.int x1] [] (c_World_muleAt G l σ b38 x1 hcr40) 120 1 tw_390 tw_387 tw_389 ts_7 tw_2 hd_World_muleAt rfl ⟨(Nat.le_of_ble_eq_true rfl), (Nat.le_of_ble_eq_true rfl)⟩ ⟨(Nat.le_of_ble_eq_true rfl), (Nat.le_of_ble_eq_true rfl)⟩ (Nat.le_of_ble_eq_true rfl) rfl 8 rfl (by decide +kernel) [.ref (G.1 + b41)] rfl ?_
    refine v_astore C 4 [(4, .ref (G.1 + b41)), (0, .ref (G.1 + a0)), (1, .int x1), (2, .int x2), (3, .int x3)] (by decide) rfl 10 rfl (by decide +kernel) ?_
    refine v_aload_n C 0 1 rfl 11 rfl (by decide +kernel) ?_
    obtain ⟨b50, hb50, hf⟩ := drf_e hf
    obtain ⟨hk_b50, hf⟩ := grd_e hf
    refine v_getR C 8 0 hb50 rfl nin_8 (ns_kd_lt hk_a0 (by decide)) hk_a0 (by decide) (by decide) rfl 12 tw_287 rfl 14 rfl (by decide +kernel) ?_
    refine v_iload_n C 2 3 rfl 15 rfl (by decide +kernel) ?_
    obtain ⟨r52, σ51, hcr52, hf⟩ := cl2_e hf
    rcases r52 with _ | b53
    · have hf := onul_n hf
      refine v_cVN C 7 rfl (ns_kd_lt hk_b50 (by decide)) hk_b50 (by decide) [.int x2] [] (c_World_muleAt G l σ39 b50 x2 hcr52) 120 1 tw_390 tw_387 tw_389 ts_7 tw_2 hd_World_muleAt rfl ⟨(Nat.le_of_ble_eq_true rfl), (Nat.le_of_ble_eq_true rfl)⟩ ⟨(Nat.le_of_ble_eq_true rfl), (Nat.le_of_ble_eq_true rfl)⟩ (Nat.le_of_ble_eq_true rfl) rfl 18 rfl (by decide +kernel) [.null] rfl ?_
      refine v_astoreN C 5 [(5, .null), (4, .ref (G.1 + b41)), (0, .ref (G.1 + a0)), (1, .int x1), (2, .int x2), (3, .int x3)] (by decide) rfl 20 rfl (by decide +kernel) ?_
      refine v_aload C 4 1 rfl 22 rfl (by decide +kernel) ?_
      refine v_ifnull C 44 25 rfl (by decide +kernel) ?_
      refine v_aloadN C 5 0 rfl 27 rfl (by decide +kernel) ?_
      refine v_ifnullN C 44 (by decide +kernel) ?_
      refine v_aload_n C 0 2 rfl 45 rfl (by decide +kernel) ?_
      refine v_bipush C (-2) (-2) (by decide) 47 rfl (by decide +kernel) ?_
      obtain ⟨r55, σ54, hcr55, hf⟩ := cl2_e hf
      refine v_cV C 8 rfl (ns_kd_lt hk_a0 (by decide)) hk_a0 (by decide) [.int (-2 : Int32)] [] (c_N_refuse G l σ51 a0 (-2 : Int32) hcr55) 79 1 tw_338 tw_335 tw_337 ts_1 tw_1 hd_N_refuse rfl ⟨(Nat.le_of_ble_eq_true rfl), (Nat.le_of_ble_eq_true rfl)⟩ ⟨(Nat.le_of_ble_eq_true rfl), (Nat.le_of_ble_eq_true rfl)⟩ (Nat.le_of_ble_eq_true rfl) rfl 50 rfl (by decide +kernel) [.int r55] rfl ?_
      cases hf
      exact v_iret C hr (by decide +kernel)
    · have hf := onul_s hf
      obtain ⟨hk_b53, hf⟩ := grd_e hf
      refine v_cVN C 7 rfl (ns_kd_lt hk_b50 (by decide)) hk_b50 (by decide) [.int x2] [] (c_World_muleAt G l σ39 b50 x2 hcr52) 120 1 tw_390 tw_387 tw_389 ts_7 tw_2 hd_World_muleAt rfl ⟨(Nat.le_of_ble_eq_true rfl), (Nat.le_of_ble_eq_true rfl)⟩ ⟨(Nat.le_of_ble_eq_true rfl), (Nat.le_of_ble_eq_true rfl)⟩ (Nat.le_of_ble_eq_true rfl) rfl 18 rfl (by decide +kernel) [.ref (G.1 + b53)] rfl ?_
      refine v_astore C 5 [(5, .ref (G.1 + b53)), (4, .ref (G.1 + b41)), (0, .ref (G.1 + a0)), (1, .int x1), (2, .int x2), (3, .int x3)] (by decide) rfl 20 rfl (by decide +kernel) ?_
      refine v_aload C 4 1 rfl 22 rfl (by decide +kernel) ?_
      refine v_ifnull C 44 25 rfl (by decide +kernel) ?_
      refine v_aload C 5 0 rfl 27 rfl (by decide +kernel) ?_
      refine v_ifnull C 44 30 rfl (by decide +kernel) ?_
      refine v_iload_n C 1 3 rfl 31 rfl (by decide +kernel) ?_
      refine v_iload_n C 2 4 rfl 32 rfl (by decide +kernel) ?_
      refine v_icmp_eq C 44 35 rfl (by decide +kernel) (fun h56 => ?_) (fun h56 => ?_)
      · have hf := ite2_t hf h56
        refine v_aload_n C 0 2 rfl 45 rfl (by decide +kernel) ?_
        refine v_bipush C (-2) (-2) (by decide) 47 rfl (by decide +kernel) ?_
        obtain ⟨r58, σ57, hcr58, hf⟩ := cl2_e hf
        refine v_cV C 8 rfl (ns_kd_lt hk_a0 (by decide)) hk_a0 (by decide) [.int (-2 : Int32)] [] (c_N_refuse G l σ51 a0 (-2 : Int32) hcr58) 79 1 tw_338 tw_335 tw_337 ts_1 tw_1 hd_N_refuse rfl ⟨(Nat.le_of_ble_eq_true rfl), (Nat.le_of_ble_eq_true rfl)⟩ ⟨(Nat.le_of_ble_eq_true rfl), (Nat.le_of_ble_eq_true rfl)⟩ (Nat.le_of_ble_eq_true rfl) rfl 50 rfl (by decide +kernel) [.int r58] rfl ?_
        cases hf
        exact v_iret C hr (by decide +kernel)
      · have hf := ite2_f hf h56
        refine v_iload_n C 3 5 rfl 36 rfl (by decide +kernel) ?_
        refine v_iconst C (0) (0) (by decide) 37 rfl (by decide +kernel) ?_
        refine v_iconst C (1) (1) (by decide) 38 rfl (by decide +kernel) ?_
        obtain ⟨r60, σ59, hcr60, hf⟩ := cl2_e hf
        refine v_cS C [.int x3, .int (0 : Int32), .int (1 : Int32)] [] (c_N_isWithin G l σ51 x3 (0 : Int32) (1 : Int32) hcr60) 75 3 tw_334 tw_332 tw_333 tw_1 hd_N_isWithin rfl ⟨(Nat.le_of_ble_eq_true rfl), (Nat.le_of_ble_eq_true rfl)⟩ ⟨(Nat.le_of_ble_eq_true rfl), (Nat.le_of_ble_eq_true rfl)⟩ (Nat.le_of_ble_eq_true rfl) rfl 41 rfl (by decide +kernel) [.int r60] rfl ?_
        refine v_if_ne C 51 44 rfl (by decide +kernel) (fun h61 => ?_) (fun h61 => ?_)
        · have hf := ite2_f hf h61
          refine v_aload C 4 1 rfl 53 rfl (by decide +kernel) ?_
          refine v_getIN C 2 2 rfl nin_2 (ns_kd_lt hk_b41 (by decide)) hk_b41 (by decide) (by decide) rfl 179 tw_93 rfl 56 rfl (by decide +kernel) ?_
          refine v_aload C 5 0 rfl 58 rfl (by decide +kernel) ?_
          refine v_getIN C 2 2 rfl nin_2 (ns_kd_lt hk_b53 (by decide)) hk_b53 (by decide) (by decide) rfl 179 tw_93 rfl 61 rfl (by decide +kernel) ?_
          obtain ⟨r63, σ62, hcr63, hf⟩ := cl2_e hf
          refine v_cS C [.int (σ59.1 b41 2), .int (σ59.1 b53 2)] [] (c_Math_max G l σ59 (σ59.1 b41 2) (σ59.1 b53 2) hcr63) 252 2 tw_598 tw_755 tw_597 tw_18 hd_Math_max rfl ⟨(Nat.le_of_ble_eq_true rfl), (Nat.le_of_ble_eq_true rfl)⟩ ⟨(Nat.le_of_ble_eq_true rfl), (Nat.le_of_ble_eq_true rfl)⟩ (Nat.le_of_ble_eq_true rfl) rfl 64 rfl (by decide +kernel) [.int r63] rfl ?_
          refine v_istore C 6 [(6, .int r63), (5, .ref (G.1 + b53)), (4, .ref (G.1 + b41)), (0, .ref (G.1 + a0)), (1, .int x1), (2, .int x2), (3, .int x3)] (by decide) rfl 66 rfl (by decide +kernel) ?_
          refine v_aload_n C 0 3 rfl 67 rfl (by decide +kernel) ?_
          refine v_aload C 4 2 rfl 69 rfl (by decide +kernel) ?_
          refine v_iload C 6 0 rfl 71 rfl (by decide +kernel) ?_
          refine v_aload C 4 2 rfl 73 rfl (by decide +kernel) ?_
          refine v_getIN C 2 1 rfl nin_2 (ns_kd_lt hk_b41 (by decide)) hk_b41 (by decide) (by decide) rfl 176 tw_86 rfl 76 rfl (by decide +kernel) ?_
          refine v_aload C 4 2 rfl 78 rfl (by decide +kernel) ?_
          refine v_getIN C 2 3 rfl nin_2 (ns_kd_lt hk_b41 (by decide)) hk_b41 (by decide) (by decide) rfl 182 tw_97 rfl 81 rfl (by decide +kernel) ?_
          obtain ⟨r65, σ64, hcr65, hf⟩ := cl2_e hf
          refine v_cV C 8 rfl (ns_kd_lt hk_a0 (by decide)) hk_a0 (by decide) [.ref (G.1 + b41), .int r63, .int (σ62.1 b41 1), .int (σ62.1 b41 3)] [] (c_N_stopsBy G l σ62 a0 b41 r63 (σ62.1 b41 1) (σ62.1 b41 3) hcr65) 258 4 tw_647 tw_644 tw_646 ts_30 tw_1 hd_N_stopsBy rfl ⟨(Nat.le_of_ble_eq_true rfl), (Nat.le_of_ble_eq_true rfl)⟩ ⟨(Nat.le_of_ble_eq_true rfl), (Nat.le_of_ble_eq_true rfl)⟩ (Nat.le_of_ble_eq_true rfl) rfl 84 rfl (by decide +kernel) [.long r65] rfl ?_
          refine v_lstore C 7 [(7, .long r65), (6, .int r63), (5, .ref (G.1 + b53)), (4, .ref (G.1 + b41)), (0, .ref (G.1 + a0)), (1, .int x1), (2, .int x2), (3, .int x3)] (by decide) rfl 86 rfl (by decide +kernel) ?_
          refine v_aload_n C 0 4 rfl 87 rfl (by decide +kernel) ?_
          refine v_aload C 5 2 rfl 89 rfl (by decide +kernel) ?_
          refine v_iload C 6 1 rfl 91 rfl (by decide +kernel) ?_
          refine v_aload C 5 2 rfl 93 rfl (by decide +kernel) ?_
          refine v_getIN C 2 1 rfl nin_2 (ns_kd_lt hk_b53 (by decide)) hk_b53 (by decide) (by decide) rfl 176 tw_86 rfl 96 rfl (by decide +kernel) ?_
          refine v_aload C 5 2 rfl 98 rfl (by decide +kernel) ?_
          refine v_getIN C 2 3 rfl nin_2 (ns_kd_lt hk_b53 (by decide)) hk_b53 (by decide) (by decide) rfl 182 tw_97 rfl 101 rfl (by decide +kernel) ?_
          obtain ⟨r67, σ66, hcr67, hf⟩ := cl2_e hf
          refine v_cV C 8 rfl (ns_kd_lt hk_a0 (by decide)) hk_a0 (by decide) [.ref (G.1 + b53), .int r63, .int (σ64.1 b53 1), .int (σ64.1 b53 3)] [] (c_N_stopsBy G l σ64 a0 b53 r63 (σ64.1 b53 1) (σ64.1 b53 3) hcr67) 258 4 tw_647 tw_644 tw_646 ts_30 tw_1 hd_N_stopsBy rfl ⟨(Nat.le_of_ble_eq_true rfl), (Nat.le_of_ble_eq_true rfl)⟩ ⟨(Nat.le_of_ble_eq_true rfl), (Nat.le_of_ble_eq_true rfl)⟩ (Nat.le_of_ble_eq_true rfl) rfl 104 rfl (by decide +kernel) [.long r67] rfl ?_
          refine v_lstore C 9 [(9, .long r67), (7, .long r65), (6, .int r63), (5, .ref (G.1 + b53)), (4, .ref (G.1 + b41)), (0, .ref (G.1 + a0)), (1, .int x1), (2, .int x2), (3, .int x3)] (by decide) rfl 106 rfl (by decide +kernel) ?_
          refine v_iload_n C 3 8 rfl 107 rfl (by decide +kernel) ?_
          refine v_if_ne C 121 110 rfl (by decide +kernel) (fun h68 => ?_) (fun h68 => ?_)
          · have hf := ite2_f hf h68
            refine v_lload C 7 1 rfl 123 rfl (by decide +kernel) ?_
            refine v_lload C 9 0 rfl 125 rfl (by decide +kernel) ?_
            refine v_land C 126 rfl (by decide +kernel) ?_
            obtain ⟨r70, σ69, hcr70, hf⟩ := cl2_e hf
            refine v_cS C [.long (r65 &&& r67)] [] (c_N_firstOf G l σ66 (r65 &&& r67) hcr70) 238 1 tw_416 tw_414 tw_415 tw_1 hd_N_firstOf rfl ⟨(Nat.le_of_ble_eq_true rfl), (Nat.le_of_ble_eq_true rfl)⟩ ⟨(Nat.le_of_ble_eq_true rfl), (Nat.le_of_ble_eq_true rfl)⟩ (Nat.le_of_ble_eq_true rfl) rfl 129 rfl (by decide +kernel) [.int r70] rfl ?_
            cases hf
            exact v_iret C hr (by decide +kernel)
          · have hf := ite2_t hf h68
            refine v_lload C 7 1 rfl 112 rfl (by decide +kernel) ?_
            refine v_lload C 9 0 rfl 114 rfl (by decide +kernel) ?_
            refine v_lor C 115 rfl (by decide +kernel) ?_
            obtain ⟨r72, σ71, hcr72, hf⟩ := cl2_e hf
            refine v_cS C [.long (r65 ||| r67)] [] (c_Long_bitCount G l σ66 (r65 ||| r67) hcr72) 213 1 tw_410 tw_408 tw_409 tw_12 hd_Long_bitCount rfl ⟨(Nat.le_of_ble_eq_true rfl), (Nat.le_of_ble_eq_true rfl)⟩ ⟨(Nat.le_of_ble_eq_true rfl), (Nat.le_of_ble_eq_true rfl)⟩ (Nat.le_of_ble_eq_true rfl) rfl 118 rfl (by decide +kernel) [.int r72] rfl ?_
            refine v_goto C 129 (by decide +kernel) ?_
            cases hf
            exact v_iret C hr (by decide +kernel)
        · have hf := ite2_t hf h61
          refine v_aload_n C 0 2 rfl 45 rfl (by decide +kernel) ?_
          refine v_bipush C (-2) (-2) (by decide) 47 rfl (by decide +kernel) ?_
          obtain ⟨r74, σ73, hcr74, hf⟩ := cl2_e hf
          refine v_cV C 8 rfl (ns_kd_lt hk_a0 (by decide)) hk_a0 (by decide) [.int (-2 : Int32)] [] (c_N_refuse G l σ59 a0 (-2 : Int32) hcr74) 79 1 tw_338 tw_335 tw_337 ts_1 tw_1 hd_N_refuse rfl ⟨(Nat.le_of_ble_eq_true rfl), (Nat.le_of_ble_eq_true rfl)⟩ ⟨(Nat.le_of_ble_eq_true rfl), (Nat.le_of_ble_eq_true rfl)⟩ (Nat.le_of_ble_eq_true rfl) rfl 50 rfl (by decide +kernel) [.int r74] rfl ?_
          cases hf
          exact v_iret C hr (by decide +kernel)
theorem hd_N_roped : (⟨"NinthStep", "roped", "(III)I"⟩ : MethodName).cls = "NinthStep" ∧ (⟨"NinthStep", "roped", "(III)I"⟩ : MethodName).cls ≠ "java/lang/invoke/MethodHandle" ∧ (⟨"NinthStep", "roped", "(III)I"⟩ : MethodName).cls ≠ "java/lang/invoke/VarHandle" ∧ (parseMethodDescriptor (⟨"NinthStep", "roped", "(III)I"⟩ : MethodName).desc).map (fun d => d.parameters.length) = some 3 := by decide +kernel
def g_N_firstTogether_38  : Nat → ns_St → Nat → Nat → Int64 → Int64 → Int32 → Int32 → Option (Int32 × ns_St)
  | 0, _, _, _, _, _, _, _ => none
  | f + 1, σ, a1, a2, x3, x5, x7, x8 => ite2 (x7 ≤ x8) (cl2 (g_Mule_arrival σ a1 x7 x3) fun r33 σ32 => cl2 (g_Mule_arrival σ32 a2 x7 x5) fun r35 σ34 => cl2 (g_Math_max σ34 r33 r35) fun r37 σ36 => some (r37, σ36)) (cl2 (g_Mule_arrival σ a1 x8 x3) fun r39 σ38 => cl2 (g_Mule_arrival σ38 a2 x8 x5) fun r41 σ40 => cl2 (g_Math_max σ40 r39 r41) fun r43 σ42 => cl2 (g_Mule_arrival σ42 a1 (x8 + (1 : Int32)) x3) fun r45 σ44 => cl2 (g_Mule_arrival σ44 a2 (x8 + (1 : Int32)) x5) fun r47 σ46 => cl2 (g_Math_min σ46 r45 r47) fun r49 σ48 => ite2 (r49 ≤ r43) (bnd (x8 + 1) fun z51 => (g_N_firstTogether_38 f) σ48 a1 a2 x3 x5 x7 z51) (some (r43, σ48)))
def g_N_firstTogether (σ : ns_St) (a0 : Nat) (a1 : Nat) (a2 : Nat) : Option (Int32 × ns_St) := grd (ns_kd a0 = 8) <| grd (ns_kd a1 = 2) <| grd (ns_kd a2 = 2) <| cl2 (g_N_stopsOf σ a0 a1) fun r53 σ52 => cl2 (g_N_stopsOf σ52 a0 a2) fun r55 σ54 => drf (σ54.2.2 a0 0) fun b56 => grd (ns_kd b56 = 7) <| drf (σ54.2.2 b56 0) fun b57 => grd (ns_kd b57 = 1) <| bnd (σ54.1 b57 0) fun z58 => cl2 (g_Math_max σ54 (σ54.1 a1 2) (σ54.1 a2 2)) fun r60 σ59 => g_N_firstTogether_38 ns_F σ59 a1 a2 r53 r55 z58 r60
theorem t_N_firstTogether_38 (G : ns_G) (l : Launch) {p : Program} {e : Env} {s : State} {m : MethodId} {args : Array Value} {below : List Frame} {meth : Method} {c : Code} (C : ns_Cx G p s m args meth c prog_1_method_58_code "NinthStep" 11) (hr : meth.sig.returnType = (some .int)) {r : Int32} {σ' : ns_St}  : ∀ (f : Nat) (σ : ns_St) (a1 : Nat) (a2 : Nat) (x3 : Int64) (x5 : Int64) (x7 : Int32) (x8 : Int32) (hk_a1 : ns_kd a1 = 2) (hk_a2 : ns_kd a2 = 2), g_N_firstTogether_38 f σ a1 a2 x3 x5 x7 x8 = some (r, σ') → VV G p l e { frames := 4, cells := 0, slots := 0, locals := 93 } s m args below meth c 11 0 0 (MQ below (ns_Qc G (some (.int r)) ns_N σ') args s 0 0 (ns_A G)) ns_N σ 38 [(1, .ref (G.1 + a1)), (2, .ref (G.1 + a2)), (3, .long x3), (5, .long x5), (7, .int x7), (8, .int x8)] [] := by
  intro f
  induction f with
  | zero =>
    intro σ a1 a2 x3 x5 x7 x8 hk_a1 hk_a2 hf
    cases hf
  | succ f ih =>
    intro σ a1 a2 x3 x5 x7 x8 hk_a1 hk_a2 hf
    rw [g_N_firstTogether_38] at hf
    refine v_iload C 8 5 rfl 40 rfl (by decide +kernel) ?_
    refine v_iload C 7 4 rfl 42 rfl (by decide +kernel) ?_
    refine v_icmp_ge C 105 45 rfl (by decide +kernel) (fun h31 => ?_) (fun h31 => ?_)
    · have hf := ite2_t hf h31
      refine v_aload_n C 1 0 rfl 106 rfl (by decide +kernel) ?_
      refine v_iload C 7 4 rfl 108 rfl (by decide +kernel) ?_
      refine v_lload_n C 3 2 rfl 109 rfl (by decide +kernel) ?_
      obtain ⟨r33, σ32, hcr33, hf⟩ := cl2_e hf
      refine v_cVN C 2 rfl (ns_kd_lt hk_a1 (by decide)) hk_a1 (by decide) [.int x7, .long x3] [] (c_Mule_arrival G l σ a1 x7 x3 hcr33) 226 2 tw_680 tw_677 tw_679 ts_35 tw_4 hd_Mule_arrival rfl ⟨(Nat.le_of_ble_eq_true rfl), (Nat.le_of_ble_eq_true rfl)⟩ ⟨(Nat.le_of_ble_eq_true rfl), (Nat.le_of_ble_eq_true rfl)⟩ (Nat.le_of_ble_eq_true rfl) rfl 112 rfl (by decide +kernel) [.int r33] rfl ?_
      refine v_aload_n C 2 1 rfl 113 rfl (by decide +kernel) ?_
      refine v_iload C 7 4 rfl 115 rfl (by decide +kernel) ?_
      refine v_lload C 5 3 rfl 117 rfl (by decide +kernel) ?_
      obtain ⟨r35, σ34, hcr35, hf⟩ := cl2_e hf
      refine v_cVN C 2 rfl (ns_kd_lt hk_a2 (by decide)) hk_a2 (by decide) [.int x7, .long x5] [.int r33] (c_Mule_arrival G l σ32 a2 x7 x5 hcr35) 226 2 tw_680 tw_677 tw_679 ts_35 tw_4 hd_Mule_arrival rfl ⟨(Nat.le_of_ble_eq_true rfl), (Nat.le_of_ble_eq_true rfl)⟩ ⟨(Nat.le_of_ble_eq_true rfl), (Nat.le_of_ble_eq_true rfl)⟩ (Nat.le_of_ble_eq_true rfl) rfl 120 rfl (by decide +kernel) [.int r35, .int r33] rfl ?_
      obtain ⟨r37, σ36, hcr37, hf⟩ := cl2_e hf
      refine v_cS C [.int r33, .int r35] [] (c_Math_max G l σ34 r33 r35 hcr37) 252 2 tw_598 tw_755 tw_597 tw_18 hd_Math_max rfl ⟨(Nat.le_of_ble_eq_true rfl), (Nat.le_of_ble_eq_true rfl)⟩ ⟨(Nat.le_of_ble_eq_true rfl), (Nat.le_of_ble_eq_true rfl)⟩ (Nat.le_of_ble_eq_true rfl) rfl 123 rfl (by decide +kernel) [.int r37] rfl ?_
      cases hf
      exact v_iret C hr (by decide +kernel)
    · have hf := ite2_f hf h31
      refine v_aload_n C 1 0 rfl 46 rfl (by decide +kernel) ?_
      refine v_iload C 8 5 rfl 48 rfl (by decide +kernel) ?_
      refine v_lload_n C 3 2 rfl 49 rfl (by decide +kernel) ?_
      obtain ⟨r39, σ38, hcr39, hf⟩ := cl2_e hf
      refine v_cVN C 2 rfl (ns_kd_lt hk_a1 (by decide)) hk_a1 (by decide) [.int x8, .long x3] [] (c_Mule_arrival G l σ a1 x8 x3 hcr39) 226 2 tw_680 tw_677 tw_679 ts_35 tw_4 hd_Mule_arrival rfl ⟨(Nat.le_of_ble_eq_true rfl), (Nat.le_of_ble_eq_true rfl)⟩ ⟨(Nat.le_of_ble_eq_true rfl), (Nat.le_of_ble_eq_true rfl)⟩ (Nat.le_of_ble_eq_true rfl) rfl 52 rfl (by decide +kernel) [.int r39] rfl ?_
      refine v_aload_n C 2 1 rfl 53 rfl (by decide +kernel) ?_
      refine v_iload C 8 5 rfl 55 rfl (by decide +kernel) ?_
      refine v_lload C 5 3 rfl 57 rfl (by decide +kernel) ?_
      obtain ⟨r41, σ40, hcr41, hf⟩ := cl2_e hf
      refine v_cVN C 2 rfl (ns_kd_lt hk_a2 (by decide)) hk_a2 (by decide) [.int x8, .long x5] [.int r39] (c_Mule_arrival G l σ38 a2 x8 x5 hcr41) 226 2 tw_680 tw_677 tw_679 ts_35 tw_4 hd_Mule_arrival rfl ⟨(Nat.le_of_ble_eq_true rfl), (Nat.le_of_ble_eq_true rfl)⟩ ⟨(Nat.le_of_ble_eq_true rfl), (Nat.le_of_ble_eq_true rfl)⟩ (Nat.le_of_ble_eq_true rfl) rfl 60 rfl (by decide +kernel) [.int r41, .int r39] rfl ?_
      obtain ⟨r43, σ42, hcr43, hf⟩ := cl2_e hf
      refine v_cS C [.int r39, .int r41] [] (c_Math_max G l σ40 r39 r41 hcr43) 252 2 tw_598 tw_755 tw_597 tw_18 hd_Math_max rfl ⟨(Nat.le_of_ble_eq_true rfl), (Nat.le_of_ble_eq_true rfl)⟩ ⟨(Nat.le_of_ble_eq_true rfl), (Nat.le_of_ble_eq_true rfl)⟩ (Nat.le_of_ble_eq_true rfl) rfl 63 rfl (by decide +kernel) [.int r43] rfl ?_
      refine v_istore C 9 [(9, .int r43), (1, .ref (G.1 + a1)), (2, .ref (G.1 + a2)), (3, .long x3), (5, .long x5), (7, .int x7), (8, .int x8)] (by decide) rfl 65 rfl (by decide +kernel) ?_
      refine v_aload_n C 1 1 rfl 66 rfl (by decide +kernel) ?_
      refine v_iload C 8 6 rfl 68 rfl (by decide +kernel) ?_
      refine v_iconst C (1) (1) (by decide) 69 rfl (by decide +kernel) ?_
      refine v_iadd C 70 rfl (by decide +kernel) ?_
      refine v_lload_n C 3 3 rfl 71 rfl (by decide +kernel) ?_
      obtain ⟨r45, σ44, hcr45, hf⟩ := cl2_e hf
      refine v_cVN C 2 rfl (ns_kd_lt hk_a1 (by decide)) hk_a1 (by decide) [.int (x8 + (1 : Int32)), .long x3] [] (c_Mule_arrival G l σ42 a1 (x8 + (1 : Int32)) x3 hcr45) 226 2 tw_680 tw_677 tw_679 ts_35 tw_4 hd_Mule_arrival rfl ⟨(Nat.le_of_ble_eq_true rfl), (Nat.le_of_ble_eq_true rfl)⟩ ⟨(Nat.le_of_ble_eq_true rfl), (Nat.le_of_ble_eq_true rfl)⟩ (Nat.le_of_ble_eq_true rfl) rfl 74 rfl (by decide +kernel) [.int r45] rfl ?_
      refine v_aload_n C 2 2 rfl 75 rfl (by decide +kernel) ?_
      refine v_iload C 8 6 rfl 77 rfl (by decide +kernel) ?_
      refine v_iconst C (1) (1) (by decide) 78 rfl (by decide +kernel) ?_
      refine v_iadd C 79 rfl (by decide +kernel) ?_
      refine v_lload C 5 4 rfl 81 rfl (by decide +kernel) ?_
      obtain ⟨r47, σ46, hcr47, hf⟩ := cl2_e hf
      refine v_cVN C 2 rfl (ns_kd_lt hk_a2 (by decide)) hk_a2 (by decide) [.int (x8 + (1 : Int32)), .long x5] [.int r45] (c_Mule_arrival G l σ44 a2 (x8 + (1 : Int32)) x5 hcr47) 226 2 tw_680 tw_677 tw_679 ts_35 tw_4 hd_Mule_arrival rfl ⟨(Nat.le_of_ble_eq_true rfl), (Nat.le_of_ble_eq_true rfl)⟩ ⟨(Nat.le_of_ble_eq_true rfl), (Nat.le_of_ble_eq_true rfl)⟩ (Nat.le_of_ble_eq_true rfl) rfl 84 rfl (by decide +kernel) [.int r47, .int r45] rfl ?_
      obtain ⟨r49, σ48, hcr49, hf⟩ := cl2_e hf
      refine v_cS C [.int r45, .int r47] [] (c_Math_min G l σ46 r45 r47 hcr49) 369 2 tw_663 tw_764 tw_662 tw_18 hd_Math_min rfl ⟨(Nat.le_of_ble_eq_true rfl), (Nat.le_of_ble_eq_true rfl)⟩ ⟨(Nat.le_of_ble_eq_true rfl), (Nat.le_of_ble_eq_true rfl)⟩ (Nat.le_of_ble_eq_true rfl) rfl 87 rfl (by decide +kernel) [.int r49] rfl ?_
      refine v_istore C 10 [(10, .int r49), (9, .int r43), (1, .ref (G.1 + a1)), (2, .ref (G.1 + a2)), (3, .long x3), (5, .long x5), (7, .int x7), (8, .int x8)] (by decide) rfl 89 rfl (by decide +kernel) ?_
      refine v_iload C 9 1 rfl 91 rfl (by decide +kernel) ?_
      refine v_iload C 10 0 rfl 93 rfl (by decide +kernel) ?_
      refine v_icmp_ge C 99 96 rfl (by decide +kernel) (fun h50 => ?_) (fun h50 => ?_)
      · have hf := ite2_t hf h50
        obtain ⟨z51, hz51, hf⟩ := bnd_e hf
        refine v_iinc C 8 (1) 7 z51 rfl (by rw [hz51]; rfl) [(8, .int z51), (10, .int r49), (9, .int r43), (1, .ref (G.1 + a1)), (2, .ref (G.1 + a2)), (3, .long x3), (5, .long x5), (7, .int x7)] (by decide) rfl 102 rfl (by decide +kernel) ?_
        refine v_goto C 38 (by decide +kernel) ?_
        refine v_sub [3, 4, 5, 6, 7, 0] rfl ?_
        exact ih σ48 a1 a2 x3 x5 x7 z51 hk_a1 hk_a2 hf
      · have hf := ite2_f hf h50
        refine v_iload C 9 1 rfl 98 rfl (by decide +kernel) ?_
        cases hf
        exact v_iret C hr (by decide +kernel)
theorem c_N_firstTogether (G : ns_G) (l : Launch) (σ : ns_St) (a0 : Nat) (a1 : Nat) (a2 : Nat) {r : Int32} {σ' : ns_St} (hf : g_N_firstTogether σ a0 a1 a2 = some (r, σ')) : ns_ok G l ⟨"NinthStep", "firstTogether", "(LNinthStep$Mule;LNinthStep$Mule;)I"⟩ prog_1_method_58_code 11 (some .int) 4 93 0 0 [.ref (G.1 + a0), .ref (G.1 + a1), .ref (G.1 + a2)] ns_N σ (some (.int r)) ns_N σ' := by
  refine v_open (by decide) (Nat.le_of_ble_eq_true rfl) rfl ?_
  intro p e s m below meth c C hr _
  have C : ns_Cx G p s m _ meth c prog_1_method_58_code "NinthStep" 11 := C
  unfold g_N_firstTogether at hf
  obtain ⟨hk_a0, hf⟩ := grd_e hf
  obtain ⟨hk_a1, hf⟩ := grd_e hf
  obtain ⟨hk_a2, hf⟩ := grd_e hf
  refine v_aload_n C 0 0 rfl 1 rfl (by decide +kernel) ?_
  refine v_aload_n C 1 1 rfl 2 rfl (by decide +kernel) ?_
  obtain ⟨r53, σ52, hcr53, hf⟩ := cl2_e hf
  refine v_cV C 8 rfl (ns_kd_lt hk_a0 (by decide)) hk_a0 (by decide) [.ref (G.1 + a1)] [] (c_N_stopsOf G l σ a0 a1 hcr53) 209 1 tw_643 tw_640 tw_642 ts_29 tw_1 hd_N_stopsOf rfl ⟨(Nat.le_of_ble_eq_true rfl), (Nat.le_of_ble_eq_true rfl)⟩ ⟨(Nat.le_of_ble_eq_true rfl), (Nat.le_of_ble_eq_true rfl)⟩ (Nat.le_of_ble_eq_true rfl) rfl 5 rfl (by decide +kernel) [.long r53] rfl ?_
  refine v_lstore_n C 3 [(3, .long r53), (0, .ref (G.1 + a0)), (1, .ref (G.1 + a1)), (2, .ref (G.1 + a2))] (by decide) rfl 6 rfl (by decide +kernel) ?_
  refine v_aload_n C 0 1 rfl 7 rfl (by decide +kernel) ?_
  refine v_aload_n C 2 3 rfl 8 rfl (by decide +kernel) ?_
  obtain ⟨r55, σ54, hcr55, hf⟩ := cl2_e hf
  refine v_cV C 8 rfl (ns_kd_lt hk_a0 (by decide)) hk_a0 (by decide) [.ref (G.1 + a2)] [] (c_N_stopsOf G l σ52 a0 a2 hcr55) 209 1 tw_643 tw_640 tw_642 ts_29 tw_1 hd_N_stopsOf rfl ⟨(Nat.le_of_ble_eq_true rfl), (Nat.le_of_ble_eq_true rfl)⟩ ⟨(Nat.le_of_ble_eq_true rfl), (Nat.le_of_ble_eq_true rfl)⟩ (Nat.le_of_ble_eq_true rfl) rfl 11 rfl (by decide +kernel) [.long r55] rfl ?_
  refine v_lstore C 5 [(5, .long r55), (3, .long r53), (0, .ref (G.1 + a0)), (1, .ref (G.1 + a1)), (2, .ref (G.1 + a2))] (by decide) rfl 13 rfl (by decide +kernel) ?_
  refine v_aload_n C 0 2 rfl 14 rfl (by decide +kernel) ?_
  obtain ⟨b56, hb56, hf⟩ := drf_e hf
  obtain ⟨hk_b56, hf⟩ := grd_e hf
  refine v_getR C 8 0 hb56 rfl nin_8 (ns_kd_lt hk_a0 (by decide)) hk_a0 (by decide) (by decide) rfl 12 tw_287 rfl 17 rfl (by decide +kernel) ?_
  obtain ⟨b57, hb57, hf⟩ := drf_e hf
  obtain ⟨hk_b57, hf⟩ := grd_e hf
  refine v_getRN C 7 0 hb57 rfl nin_7 (ns_kd_lt hk_b56 (by decide)) hk_b56 (by decide) (by decide) rfl 138 tw_128 rfl 20 rfl (by decide +kernel) ?_
  refine v_getIN C 1 0 rfl nin_1 (ns_kd_lt hk_b57 (by decide)) hk_b57 (by decide) (by decide) rfl 147 tw_45 rfl 23 rfl (by decide +kernel) ?_
  obtain ⟨z58, hz58, hf⟩ := bnd_e hf
  refine v_nmI hz58 ?_
  refine v_istore C 7 [(7, .int z58), (5, .long r55), (3, .long r53), (0, .ref (G.1 + a0)), (1, .ref (G.1 + a1)), (2, .ref (G.1 + a2))] (by decide) rfl 25 rfl (by decide +kernel) ?_
  refine v_aload_n C 1 4 rfl 26 rfl (by decide +kernel) ?_
  refine v_getIN C 2 2 rfl nin_2 (ns_kd_lt hk_a1 (by decide)) hk_a1 (by decide) (by decide) rfl 179 tw_93 rfl 29 rfl (by decide +kernel) ?_
  refine v_aload_n C 2 5 rfl 30 rfl (by decide +kernel) ?_
  refine v_getIN C 2 2 rfl nin_2 (ns_kd_lt hk_a2 (by decide)) hk_a2 (by decide) (by decide) rfl 179 tw_93 rfl 33 rfl (by decide +kernel) ?_
  obtain ⟨r60, σ59, hcr60, hf⟩ := cl2_e hf
  refine v_cS C [.int (σ54.1 a1 2), .int (σ54.1 a2 2)] [] (c_Math_max G l σ54 (σ54.1 a1 2) (σ54.1 a2 2) hcr60) 252 2 tw_598 tw_755 tw_597 tw_18 hd_Math_max rfl ⟨(Nat.le_of_ble_eq_true rfl), (Nat.le_of_ble_eq_true rfl)⟩ ⟨(Nat.le_of_ble_eq_true rfl), (Nat.le_of_ble_eq_true rfl)⟩ (Nat.le_of_ble_eq_true rfl) rfl 36 rfl (by decide +kernel) [.int r60] rfl ?_
  refine v_istore C 8 [(8, .int r60), (7, .int z58), (5, .long r55), (3, .long r53), (0, .ref (G.1 + a0)), (1, .ref (G.1 + a1)), (2, .ref (G.1 + a2))] (by decide) rfl 38 rfl (by decide +kernel) ?_
  refine v_sub [5, 6, 3, 2, 1, 0] rfl ?_
  exact t_N_firstTogether_38 G l C hr  ns_F σ59 a1 a2 r53 r55 z58 r60 hk_a1 hk_a2 hf
theorem hd_N_firstTogether : (⟨"NinthStep", "firstTogether", "(LNinthStep$Mule;LNinthStep$Mule;)I"⟩ : MethodName).cls = "NinthStep" ∧ (⟨"NinthStep", "firstTogether", "(LNinthStep$Mule;LNinthStep$Mule;)I"⟩ : MethodName).cls ≠ "java/lang/invoke/MethodHandle" ∧ (⟨"NinthStep", "firstTogether", "(LNinthStep$Mule;LNinthStep$Mule;)I"⟩ : MethodName).cls ≠ "java/lang/invoke/VarHandle" ∧ (parseMethodDescriptor (⟨"NinthStep", "firstTogether", "(LNinthStep$Mule;LNinthStep$Mule;)I"⟩ : MethodName).desc).map (fun d => d.parameters.length) = some 2 := by decide +kernel
def g_N_meets (σ : ns_St) (a0 : Nat) (x1 : Int32) (x2 : Int32) : Option (Int32 × ns_St) := grd (ns_kd a0 = 8) <| drf (σ.2.2 a0 0) fun b25 => grd (ns_kd b25 = 7) <| cl2 (g_World_muleAt σ b25 x1) fun r27 σ26 => onul r27 (drf (σ26.2.2 a0 0) fun b29 => grd (ns_kd b29 = 7) <| cl2 (g_World_muleAt σ26 b29 x2) fun r31 σ30 => onul r31 (cl2 (g_N_refuse σ30 a0 (-2 : Int32)) fun r34 σ33 => some (r34, σ33)) (fun b32 => grd (ns_kd b32 = 2) <| cl2 (g_N_refuse σ30 a0 (-2 : Int32)) fun r36 σ35 => some (r36, σ35))) (fun b28 => grd (ns_kd b28 = 2) <| drf (σ26.2.2 a0 0) fun b37 => grd (ns_kd b37 = 7) <| cl2 (g_World_muleAt σ26 b37 x2) fun r39 σ38 => onul r39 (cl2 (g_N_refuse σ38 a0 (-2 : Int32)) fun r42 σ41 => some (r42, σ41)) (fun b40 => grd (ns_kd b40 = 2) <| ite2 (x1 = x2) (cl2 (g_N_refuse σ38 a0 (-2 : Int32)) fun r48 σ47 => some (r48, σ47)) (cl2 (g_N_firstTogether σ38 a0 b28 b40) fun r45 σ44 => ite2 (r45 ≤ (400 : Int32)) (some (r45, σ44)) (some ((-1 : Int32), σ44)))))
theorem c_N_meets (G : ns_G) (l : Launch) (σ : ns_St) (a0 : Nat) (x1 : Int32) (x2 : Int32) {r : Int32} {σ' : ns_St} (hf : g_N_meets σ a0 x1 x2 = some (r, σ')) : ns_ok G l ⟨"NinthStep", "meets", "(II)I"⟩ prog_1_method_28_code 6 (some .int) 5 123 0 0 [.ref (G.1 + a0), .int x1, .int x2] ns_N σ (some (.int r)) ns_N σ' := by
  refine v_open (by decide) (Nat.le_of_ble_eq_true rfl) rfl ?_
  intro p e s m below meth c C hr _
  have C : ns_Cx G p s m _ meth c prog_1_method_28_code "NinthStep" 6 := C
  unfold g_N_meets at hf
  obtain ⟨hk_a0, hf⟩ := grd_e hf
  refine v_aload_n C 0 0 rfl 1 rfl (by decide +kernel) ?_
  obtain ⟨b25, hb25, hf⟩ := drf_e hf
  obtain ⟨hk_b25, hf⟩ := grd_e hf
  refine v_getR C 8 0 hb25 rfl nin_8 (ns_kd_lt hk_a0 (by decide)) hk_a0 (by decide) (by decide) rfl 12 tw_287 rfl 4 rfl (by decide +kernel) ?_
  refine v_iload_n C 1 1 rfl 5 rfl (by decide +kernel) ?_
  obtain ⟨r27, σ26, hcr27, hf⟩ := cl2_e hf
  rcases r27 with _ | b28
  · have hf := onul_n hf
    refine v_cVN C 7 rfl (ns_kd_lt hk_b25 (by decide)) hk_b25 (by decide) [.int x1] [] (c_World_muleAt G l σ b25 x1 hcr27) 120 1 tw_390 tw_387 tw_389 ts_7 tw_2 hd_World_muleAt rfl ⟨(Nat.le_of_ble_eq_true rfl), (Nat.le_of_ble_eq_true rfl)⟩ ⟨(Nat.le_of_ble_eq_true rfl), (Nat.le_of_ble_eq_true rfl)⟩ (Nat.le_of_ble_eq_true rfl) rfl 8 rfl (by decide +kernel) [.null] rfl ?_
    refine v_astore_nN C 3 [(3, .null), (0, .ref (G.1 + a0)), (1, .int x1), (2, .int x2)] (by decide) rfl 9 rfl (by decide +kernel) ?_
    refine v_aload_n C 0 1 rfl 10 rfl (by decide +kernel) ?_
    obtain ⟨b29, hb29, hf⟩ := drf_e hf
    obtain ⟨hk_b29, hf⟩ := grd_e hf
    refine v_getR C 8 0 hb29 rfl nin_8 (ns_kd_lt hk_a0 (by decide)) hk_a0 (by decide) (by decide) rfl 12 tw_287 rfl 13 rfl (by decide +kernel) ?_
    refine v_iload_n C 2 3 rfl 14 rfl (by decide +kernel) ?_
    obtain ⟨r31, σ30, hcr31, hf⟩ := cl2_e hf
    rcases r31 with _ | b32
    · have hf := onul_n hf
      refine v_cVN C 7 rfl (ns_kd_lt hk_b29 (by decide)) hk_b29 (by decide) [.int x2] [] (c_World_muleAt G l σ26 b29 x2 hcr31) 120 1 tw_390 tw_387 tw_389 ts_7 tw_2 hd_World_muleAt rfl ⟨(Nat.le_of_ble_eq_true rfl), (Nat.le_of_ble_eq_true rfl)⟩ ⟨(Nat.le_of_ble_eq_true rfl), (Nat.le_of_ble_eq_true rfl)⟩ (Nat.le_of_ble_eq_true rfl) rfl 17 rfl (by decide +kernel) [.null] rfl ?_
      refine v_astoreN C 4 [(4, .null), (3, .null), (0, .ref (G.1 + a0)), (1, .int x1), (2, .int x2)] (by decide) rfl 19 rfl (by decide +kernel) ?_
      refine v_aload_nN C 3 1 rfl 20 rfl (by decide +kernel) ?_
      refine v_ifnullN C 33 (by decide +kernel) ?_
      refine v_aload_n C 0 2 rfl 34 rfl (by decide +kernel) ?_
      refine v_bipush C (-2) (-2) (by decide) 36 rfl (by decide +kernel) ?_
      obtain ⟨r34, σ33, hcr34, hf⟩ := cl2_e hf
      refine v_cV C 8 rfl (ns_kd_lt hk_a0 (by decide)) hk_a0 (by decide) [.int (-2 : Int32)] [] (c_N_refuse G l σ30 a0 (-2 : Int32) hcr34) 79 1 tw_338 tw_335 tw_337 ts_1 tw_1 hd_N_refuse rfl ⟨(Nat.le_of_ble_eq_true rfl), (Nat.le_of_ble_eq_true rfl)⟩ ⟨(Nat.le_of_ble_eq_true rfl), (Nat.le_of_ble_eq_true rfl)⟩ (Nat.le_of_ble_eq_true rfl) rfl 39 rfl (by decide +kernel) [.int r34] rfl ?_
      cases hf
      exact v_iret C hr (by decide +kernel)
    · have hf := onul_s hf
      obtain ⟨hk_b32, hf⟩ := grd_e hf
      refine v_cVN C 7 rfl (ns_kd_lt hk_b29 (by decide)) hk_b29 (by decide) [.int x2] [] (c_World_muleAt G l σ26 b29 x2 hcr31) 120 1 tw_390 tw_387 tw_389 ts_7 tw_2 hd_World_muleAt rfl ⟨(Nat.le_of_ble_eq_true rfl), (Nat.le_of_ble_eq_true rfl)⟩ ⟨(Nat.le_of_ble_eq_true rfl), (Nat.le_of_ble_eq_true rfl)⟩ (Nat.le_of_ble_eq_true rfl) rfl 17 rfl (by decide +kernel) [.ref (G.1 + b32)] rfl ?_
      refine v_astore C 4 [(4, .ref (G.1 + b32)), (3, .null), (0, .ref (G.1 + a0)), (1, .int x1), (2, .int x2)] (by decide) rfl 19 rfl (by decide +kernel) ?_
      refine v_aload_nN C 3 1 rfl 20 rfl (by decide +kernel) ?_
      refine v_ifnullN C 33 (by decide +kernel) ?_
      refine v_aload_n C 0 2 rfl 34 rfl (by decide +kernel) ?_
      refine v_bipush C (-2) (-2) (by decide) 36 rfl (by decide +kernel) ?_
      obtain ⟨r36, σ35, hcr36, hf⟩ := cl2_e hf
      refine v_cV C 8 rfl (ns_kd_lt hk_a0 (by decide)) hk_a0 (by decide) [.int (-2 : Int32)] [] (c_N_refuse G l σ30 a0 (-2 : Int32) hcr36) 79 1 tw_338 tw_335 tw_337 ts_1 tw_1 hd_N_refuse rfl ⟨(Nat.le_of_ble_eq_true rfl), (Nat.le_of_ble_eq_true rfl)⟩ ⟨(Nat.le_of_ble_eq_true rfl), (Nat.le_of_ble_eq_true rfl)⟩ (Nat.le_of_ble_eq_true rfl) rfl 39 rfl (by decide +kernel) [.int r36] rfl ?_
      cases hf
      exact v_iret C hr (by decide +kernel)
  · have hf := onul_s hf
    obtain ⟨hk_b28, hf⟩ := grd_e hf
    refine v_cVN C 7 rfl (ns_kd_lt hk_b25 (by decide)) hk_b25 (by decide) [.int x1] [] (c_World_muleAt G l σ b25 x1 hcr27) 120 1 tw_390 tw_387 tw_389 ts_7 tw_2 hd_World_muleAt rfl ⟨(Nat.le_of_ble_eq_true rfl), (Nat.le_of_ble_eq_true rfl)⟩ ⟨(Nat.le_of_ble_eq_true rfl), (Nat.le_of_ble_eq_true rfl)⟩ (Nat.le_of_ble_eq_true rfl) rfl 8 rfl (by decide +kernel) [.ref (G.1 + b28)] rfl ?_
    refine v_astore_n C 3 [(3, .ref (G.1 + b28)), (0, .ref (G.1 + a0)), (1, .int x1), (2, .int x2)] (by decide) rfl 9 rfl (by decide +kernel) ?_
    refine v_aload_n C 0 1 rfl 10 rfl (by decide +kernel) ?_
    obtain ⟨b37, hb37, hf⟩ := drf_e hf
    obtain ⟨hk_b37, hf⟩ := grd_e hf
    refine v_getR C 8 0 hb37 rfl nin_8 (ns_kd_lt hk_a0 (by decide)) hk_a0 (by decide) (by decide) rfl 12 tw_287 rfl 13 rfl (by decide +kernel) ?_
    refine v_iload_n C 2 3 rfl 14 rfl (by decide +kernel) ?_
    obtain ⟨r39, σ38, hcr39, hf⟩ := cl2_e hf
    rcases r39 with _ | b40
    · have hf := onul_n hf
      refine v_cVN C 7 rfl (ns_kd_lt hk_b37 (by decide)) hk_b37 (by decide) [.int x2] [] (c_World_muleAt G l σ26 b37 x2 hcr39) 120 1 tw_390 tw_387 tw_389 ts_7 tw_2 hd_World_muleAt rfl ⟨(Nat.le_of_ble_eq_true rfl), (Nat.le_of_ble_eq_true rfl)⟩ ⟨(Nat.le_of_ble_eq_true rfl), (Nat.le_of_ble_eq_true rfl)⟩ (Nat.le_of_ble_eq_true rfl) rfl 17 rfl (by decide +kernel) [.null] rfl ?_
      refine v_astoreN C 4 [(4, .null), (3, .ref (G.1 + b28)), (0, .ref (G.1 + a0)), (1, .int x1), (2, .int x2)] (by decide) rfl 19 rfl (by decide +kernel) ?_
      refine v_aload_n C 3 1 rfl 20 rfl (by decide +kernel) ?_
      refine v_ifnull C 33 23 rfl (by decide +kernel) ?_
      refine v_aloadN C 4 0 rfl 25 rfl (by decide +kernel) ?_
      refine v_ifnullN C 33 (by decide +kernel) ?_
      refine v_aload_n C 0 2 rfl 34 rfl (by decide +kernel) ?_
      refine v_bipush C (-2) (-2) (by decide) 36 rfl (by decide +kernel) ?_
      obtain ⟨r42, σ41, hcr42, hf⟩ := cl2_e hf
      refine v_cV C 8 rfl (ns_kd_lt hk_a0 (by decide)) hk_a0 (by decide) [.int (-2 : Int32)] [] (c_N_refuse G l σ38 a0 (-2 : Int32) hcr42) 79 1 tw_338 tw_335 tw_337 ts_1 tw_1 hd_N_refuse rfl ⟨(Nat.le_of_ble_eq_true rfl), (Nat.le_of_ble_eq_true rfl)⟩ ⟨(Nat.le_of_ble_eq_true rfl), (Nat.le_of_ble_eq_true rfl)⟩ (Nat.le_of_ble_eq_true rfl) rfl 39 rfl (by decide +kernel) [.int r42] rfl ?_
      cases hf
      exact v_iret C hr (by decide +kernel)
    · have hf := onul_s hf
      obtain ⟨hk_b40, hf⟩ := grd_e hf
      refine v_cVN C 7 rfl (ns_kd_lt hk_b37 (by decide)) hk_b37 (by decide) [.int x2] [] (c_World_muleAt G l σ26 b37 x2 hcr39) 120 1 tw_390 tw_387 tw_389 ts_7 tw_2 hd_World_muleAt rfl ⟨(Nat.le_of_ble_eq_true rfl), (Nat.le_of_ble_eq_true rfl)⟩ ⟨(Nat.le_of_ble_eq_true rfl), (Nat.le_of_ble_eq_true rfl)⟩ (Nat.le_of_ble_eq_true rfl) rfl 17 rfl (by decide +kernel) [.ref (G.1 + b40)] rfl ?_
      refine v_astore C 4 [(4, .ref (G.1 + b40)), (3, .ref (G.1 + b28)), (0, .ref (G.1 + a0)), (1, .int x1), (2, .int x2)] (by decide) rfl 19 rfl (by decide +kernel) ?_
      refine v_aload_n C 3 1 rfl 20 rfl (by decide +kernel) ?_
      refine v_ifnull C 33 23 rfl (by decide +kernel) ?_
      refine v_aload C 4 0 rfl 25 rfl (by decide +kernel) ?_
      refine v_ifnull C 33 28 rfl (by decide +kernel) ?_
      refine v_iload_n C 1 3 rfl 29 rfl (by decide +kernel) ?_
      refine v_iload_n C 2 4 rfl 30 rfl (by decide +kernel) ?_
      refine v_icmp_ne C 40 33 rfl (by decide +kernel) (fun h43 => ?_) (fun h43 => ?_)
      · have hf := ite2_f hf h43
        refine v_aload_n C 0 2 rfl 41 rfl (by decide +kernel) ?_
        refine v_aload_n C 3 1 rfl 42 rfl (by decide +kernel) ?_
        refine v_aload C 4 0 rfl 44 rfl (by decide +kernel) ?_
        obtain ⟨r45, σ44, hcr45, hf⟩ := cl2_e hf
        refine v_cV C 8 rfl (ns_kd_lt hk_a0 (by decide)) hk_a0 (by decide) [.ref (G.1 + b28), .ref (G.1 + b40)] [] (c_N_firstTogether G l σ38 a0 b28 b40 hcr45) 262 2 tw_763 tw_760 tw_762 ts_46 tw_1 hd_N_firstTogether rfl ⟨(Nat.le_of_ble_eq_true rfl), (Nat.le_of_ble_eq_true rfl)⟩ ⟨(Nat.le_of_ble_eq_true rfl), (Nat.le_of_ble_eq_true rfl)⟩ (Nat.le_of_ble_eq_true rfl) rfl 47 rfl (by decide +kernel) [.int r45] rfl ?_
        refine v_istore C 5 [(5, .int r45), (4, .ref (G.1 + b40)), (3, .ref (G.1 + b28)), (0, .ref (G.1 + a0)), (1, .int x1), (2, .int x2)] (by decide) rfl 49 rfl (by decide +kernel) ?_
        refine v_iload C 5 0 rfl 51 rfl (by decide +kernel) ?_
        refine v_sipush C (400) (400) (by decide) 54 rfl (by decide +kernel) ?_
        refine v_icmp_le C 61 57 rfl (by decide +kernel) (fun h46 => ?_) (fun h46 => ?_)
        · have hf := ite2_t hf h46
          refine v_iload C 5 0 rfl 63 rfl (by decide +kernel) ?_
          cases hf
          exact v_iret C hr (by decide +kernel)
        · have hf := ite2_f hf h46
          refine v_iconst C (-1) (-1) (by decide) 58 rfl (by decide +kernel) ?_
          refine v_goto C 63 (by decide +kernel) ?_
          cases hf
          exact v_iret C hr (by decide +kernel)
      · have hf := ite2_t hf h43
        refine v_aload_n C 0 2 rfl 34 rfl (by decide +kernel) ?_
        refine v_bipush C (-2) (-2) (by decide) 36 rfl (by decide +kernel) ?_
        obtain ⟨r48, σ47, hcr48, hf⟩ := cl2_e hf
        refine v_cV C 8 rfl (ns_kd_lt hk_a0 (by decide)) hk_a0 (by decide) [.int (-2 : Int32)] [] (c_N_refuse G l σ38 a0 (-2 : Int32) hcr48) 79 1 tw_338 tw_335 tw_337 ts_1 tw_1 hd_N_refuse rfl ⟨(Nat.le_of_ble_eq_true rfl), (Nat.le_of_ble_eq_true rfl)⟩ ⟨(Nat.le_of_ble_eq_true rfl), (Nat.le_of_ble_eq_true rfl)⟩ (Nat.le_of_ble_eq_true rfl) rfl 39 rfl (by decide +kernel) [.int r48] rfl ?_
        cases hf
        exact v_iret C hr (by decide +kernel)
theorem hd_N_meets : (⟨"NinthStep", "meets", "(II)I"⟩ : MethodName).cls = "NinthStep" ∧ (⟨"NinthStep", "meets", "(II)I"⟩ : MethodName).cls ≠ "java/lang/invoke/MethodHandle" ∧ (⟨"NinthStep", "meets", "(II)I"⟩ : MethodName).cls ≠ "java/lang/invoke/VarHandle" ∧ (parseMethodDescriptor (⟨"NinthStep", "meets", "(II)I"⟩ : MethodName).desc).map (fun d => d.parameters.length) = some 2 := by decide +kernel
def g_N_last_6  : Nat → ns_St → Nat → Int32 → Int32 → Int32 → Option (Int32 × ns_St)
  | 0, _, _, _, _, _ => none
  | f + 1, σ, a0, x1, x2, x3 => drf (σ.2.2 a0 0) fun b15 => grd (ns_kd b15 = 7) <| ite2 ((σ.1 b15 2) ≤ x3) (ite2 (x1 = (-1 : Int32)) (cl2 (g_N_refuse σ a0 (-5 : Int32)) fun r19 σ18 => some (r19, σ18)) (some (x1, σ))) (drf (σ.2.2 a0 0) fun b20 => grd (ns_kd b20 = 7) <| drf (σ.2.2 b20 1) fun b21 => grd (ns_kd b21 = 12) <| grd (ns_in x3 (ns_ln b21)) <| drf (σ.2.2 b21 (ns_ix x3)) fun b23 => grd (ns_kd b23 = 2) <| cl2 (g_N_minutesOf σ a0 b23) fun r25 σ24 => ite2 (r25 ≤ x2) (bnd (x3 + 1) fun z27 => (g_N_last_6 f) σ24 a0 x1 x2 z27) (bnd (x3 + 1) fun z28 => (g_N_last_6 f) σ24 a0 x3 r25 z28))
def g_N_last (σ : ns_St) (a0 : Nat) : Option (Int32 × ns_St) := grd (ns_kd a0 = 8) <| g_N_last_6 ns_F σ a0 (-1 : Int32) (-1 : Int32) (0 : Int32)
theorem t_N_last_6 (G : ns_G) (l : Launch) {p : Program} {e : Env} {s : State} {m : MethodId} {args : Array Value} {below : List Frame} {meth : Method} {c : Code} (C : ns_Cx G p s m args meth c prog_1_method_29_code "NinthStep" 5) (hr : meth.sig.returnType = (some .int)) {r : Int32} {σ' : ns_St}  : ∀ (f : Nat) (σ : ns_St) (a0 : Nat) (x1 : Int32) (x2 : Int32) (x3 : Int32) (hk_a0 : ns_kd a0 = 8), g_N_last_6 f σ a0 x1 x2 x3 = some (r, σ') → VV G p l e { frames := 5, cells := 0, slots := 0, locals := 114 } s m args below meth c 5 0 0 (MQ below (ns_Qc G (some (.int r)) ns_N σ') args s 0 0 (ns_A G)) ns_N σ 6 [(0, .ref (G.1 + a0)), (1, .int x1), (2, .int x2), (3, .int x3)] [] := by
  intro f
  induction f with
  | zero =>
    intro σ a0 x1 x2 x3 hk_a0 hf
    cases hf
  | succ f ih =>
    intro σ a0 x1 x2 x3 hk_a0 hf
    rw [g_N_last_6] at hf
    refine v_iload_n C 3 3 rfl 7 rfl (by decide +kernel) ?_
    refine v_aload_n C 0 0 rfl 8 rfl (by decide +kernel) ?_
    obtain ⟨b15, hb15, hf⟩ := drf_e hf
    obtain ⟨hk_b15, hf⟩ := grd_e hf
    refine v_getR C 8 0 hb15 rfl nin_8 (ns_kd_lt hk_a0 (by decide)) hk_a0 (by decide) (by decide) rfl 12 tw_287 rfl 11 rfl (by decide +kernel) ?_
    refine v_getIN C 7 2 rfl nin_7 (ns_kd_lt hk_b15 (by decide)) hk_b15 (by decide) (by decide) rfl 135 tw_135 rfl 14 rfl (by decide +kernel) ?_
    refine v_icmp_ge C 49 17 rfl (by decide +kernel) (fun h16 => ?_) (fun h16 => ?_)
    · have hf := ite2_t hf h16
      refine v_iload_n C 1 1 rfl 50 rfl (by decide +kernel) ?_
      refine v_iconst C (-1) (-1) (by decide) 51 rfl (by decide +kernel) ?_
      refine v_icmp_ne C 63 54 rfl (by decide +kernel) (fun h17 => ?_) (fun h17 => ?_)
      · have hf := ite2_f hf h17
        refine v_iload_n C 1 1 rfl 64 rfl (by decide +kernel) ?_
        cases hf
        exact v_iret C hr (by decide +kernel)
      · have hf := ite2_t hf h17
        refine v_aload_n C 0 0 rfl 55 rfl (by decide +kernel) ?_
        refine v_bipush C (-5) (-5) (by decide) 57 rfl (by decide +kernel) ?_
        obtain ⟨r19, σ18, hcr19, hf⟩ := cl2_e hf
        refine v_cV C 8 rfl (ns_kd_lt hk_a0 (by decide)) hk_a0 (by decide) [.int (-5 : Int32)] [] (c_N_refuse G l σ a0 (-5 : Int32) hcr19) 79 1 tw_338 tw_335 tw_337 ts_1 tw_1 hd_N_refuse rfl ⟨(Nat.le_of_ble_eq_true rfl), (Nat.le_of_ble_eq_true rfl)⟩ ⟨(Nat.le_of_ble_eq_true rfl), (Nat.le_of_ble_eq_true rfl)⟩ (Nat.le_of_ble_eq_true rfl) rfl 60 rfl (by decide +kernel) [.int r19] rfl ?_
        refine v_goto C 64 (by decide +kernel) ?_
        cases hf
        exact v_iret C hr (by decide +kernel)
    · have hf := ite2_f hf h16
      refine v_aload_n C 0 0 rfl 18 rfl (by decide +kernel) ?_
      refine v_aload_n C 0 0 rfl 19 rfl (by decide +kernel) ?_
      obtain ⟨b20, hb20, hf⟩ := drf_e hf
      obtain ⟨hk_b20, hf⟩ := grd_e hf
      refine v_getR C 8 0 hb20 rfl nin_8 (ns_kd_lt hk_a0 (by decide)) hk_a0 (by decide) (by decide) rfl 12 tw_287 rfl 22 rfl (by decide +kernel) ?_
      obtain ⟨b21, hb21, hf⟩ := drf_e hf
      obtain ⟨hk_b21, hf⟩ := grd_e hf
      refine v_getRN C 7 1 hb21 rfl nin_7 (ns_kd_lt hk_b20 (by decide)) hk_b20 (by decide) (by decide) rfl 266 tw_131 rfl 25 rfl (by decide +kernel) ?_
      refine v_iload_n C 3 3 rfl 26 rfl (by decide +kernel) ?_
      obtain ⟨hi22, hf⟩ := grd_e hf
      obtain ⟨b23, hb23, hf⟩ := drf_e hf
      obtain ⟨hk_b23, hf⟩ := grd_e hf
      refine v_aald C 12 (by decide) (ns_kd_lt hk_b21 (by decide)) hk_b21 hi22 hb23 27 rfl (by decide +kernel) ?_
      obtain ⟨r25, σ24, hcr25, hf⟩ := cl2_e hf
      refine v_cV C 8 rfl (ns_kd_lt hk_a0 (by decide)) hk_a0 (by decide) [.ref (G.1 + b23)] [] (c_N_minutesOf G l σ a0 b23 hcr25) 222 1 tw_672 tw_669 tw_671 ts_34 tw_1 hd_N_minutesOf rfl ⟨(Nat.le_of_ble_eq_true rfl), (Nat.le_of_ble_eq_true rfl)⟩ ⟨(Nat.le_of_ble_eq_true rfl), (Nat.le_of_ble_eq_true rfl)⟩ (Nat.le_of_ble_eq_true rfl) rfl 30 rfl (by decide +kernel) [.int r25] rfl ?_
      refine v_istore C 4 [(4, .int r25), (0, .ref (G.1 + a0)), (1, .int x1), (2, .int x2), (3, .int x3)] (by decide) rfl 32 rfl (by decide +kernel) ?_
      refine v_iload C 4 0 rfl 34 rfl (by decide +kernel) ?_
      refine v_iload_n C 2 3 rfl 35 rfl (by decide +kernel) ?_
      refine v_icmp_le C 43 38 rfl (by decide +kernel) (fun h26 => ?_) (fun h26 => ?_)
      · have hf := ite2_t hf h26
        obtain ⟨z27, hz27, hf⟩ := bnd_e hf
        refine v_iinc C 3 (1) 4 z27 rfl (by rw [hz27]; rfl) [(3, .int z27), (4, .int r25), (0, .ref (G.1 + a0)), (1, .int x1), (2, .int x2)] (by decide) rfl 46 rfl (by decide +kernel) ?_
        refine v_goto C 6 (by decide +kernel) ?_
        refine v_sub [2, 3, 4, 0] rfl ?_
        exact ih σ24 a0 x1 x2 z27 hk_a0 hf
      · have hf := ite2_f hf h26
        refine v_iload C 4 0 rfl 40 rfl (by decide +kernel) ?_
        refine v_istore_n C 2 [(2, .int r25), (4, .int r25), (0, .ref (G.1 + a0)), (1, .int x1), (3, .int x3)] (by decide) rfl 41 rfl (by decide +kernel) ?_
        refine v_iload_n C 3 4 rfl 42 rfl (by decide +kernel) ?_
        refine v_istore_n C 1 [(1, .int x3), (2, .int r25), (4, .int r25), (0, .ref (G.1 + a0)), (3, .int x3)] (by decide) rfl 43 rfl (by decide +kernel) ?_
        obtain ⟨z28, hz28, hf⟩ := bnd_e hf
        refine v_iinc C 3 (1) 4 z28 rfl (by rw [hz28]; rfl) [(3, .int z28), (1, .int x3), (2, .int r25), (4, .int r25), (0, .ref (G.1 + a0))] (by decide) rfl 46 rfl (by decide +kernel) ?_
        refine v_goto C 6 (by decide +kernel) ?_
        refine v_sub [4, 1, 2, 0] rfl ?_
        exact ih σ24 a0 x3 r25 z28 hk_a0 hf
theorem c_N_last (G : ns_G) (l : Launch) (σ : ns_St) (a0 : Nat) {r : Int32} {σ' : ns_St} (hf : g_N_last σ a0 = some (r, σ')) : ns_ok G l ⟨"NinthStep", "last", "()I"⟩ prog_1_method_29_code 5 (some .int) 5 114 0 0 [.ref (G.1 + a0)] ns_N σ (some (.int r)) ns_N σ' := by
  refine v_open (by decide) (Nat.le_of_ble_eq_true rfl) rfl ?_
  intro p e s m below meth c C hr _
  have C : ns_Cx G p s m _ meth c prog_1_method_29_code "NinthStep" 5 := C
  unfold g_N_last at hf
  obtain ⟨hk_a0, hf⟩ := grd_e hf
  refine v_iconst C (-1) (-1) (by decide) 1 rfl (by decide +kernel) ?_
  refine v_istore_n C 1 [(1, .int (-1 : Int32)), (0, .ref (G.1 + a0))] (by decide) rfl 2 rfl (by decide +kernel) ?_
  refine v_iconst C (-1) (-1) (by decide) 3 rfl (by decide +kernel) ?_
  refine v_istore_n C 2 [(2, .int (-1 : Int32)), (1, .int (-1 : Int32)), (0, .ref (G.1 + a0))] (by decide) rfl 4 rfl (by decide +kernel) ?_
  refine v_iconst C (0) (0) (by decide) 5 rfl (by decide +kernel) ?_
  refine v_istore_n C 3 [(3, .int (0 : Int32)), (2, .int (-1 : Int32)), (1, .int (-1 : Int32)), (0, .ref (G.1 + a0))] (by decide) rfl 6 rfl (by decide +kernel) ?_
  refine v_sub [3, 2, 1, 0] rfl ?_
  exact t_N_last_6 G l C hr  ns_F σ a0 (-1 : Int32) (-1 : Int32) (0 : Int32) hk_a0 hf
theorem hd_N_last : (⟨"NinthStep", "last", "()I"⟩ : MethodName).cls = "NinthStep" ∧ (⟨"NinthStep", "last", "()I"⟩ : MethodName).cls ≠ "java/lang/invoke/MethodHandle" ∧ (⟨"NinthStep", "last", "()I"⟩ : MethodName).cls ≠ "java/lang/invoke/VarHandle" ∧ (parseMethodDescriptor (⟨"NinthStep", "last", "()I"⟩ : MethodName).desc).map (fun d => d.parameters.length) = some 0 := by decide +kernel
def g_N_mulesTold_15  : Nat → ns_St → Nat → Nat → Int32 → Int32 → Int32 → Option (Int32 × ns_St)
  | 0, _, _, _, _, _, _ => none
  | f + 1, σ, a0, a1, x2, x3, x4 => ite2 (x2 ≤ x4) (some (x3, σ)) (cl2 (g_Shelf_cellAt σ a1 x4) fun r13 σ12 => ite2 ((lg_cmp r13 (0 : Int64)) < 0) (some ((-1 : Int32), σ12)) (drf (σ12.2.2 a0 0) fun b15 => grd (ns_kd b15 = 7) <| ite2 (0 ≤ (lg_cmp r13 ((σ12.1 b15 2).toInt64))) (some ((-1 : Int32), σ12)) (ite2 (((x3 >>> ((r13.toInt32) &&& 31)) &&& (1 : Int32)) = 0) (bnd (x3 ||| ((1 : Int32) <<< ((r13.toInt32) &&& 31))) fun z18 => bnd (x4 + 1) fun z19 => (g_N_mulesTold_15 f) σ12 a0 a1 x2 z18 z19) (some ((-1 : Int32), σ12)))))
def g_N_mulesTold (σ : ns_St) (a0 : Nat) (a1 : Nat) (x2 : Int32) : Option (Int32 × ns_St) := grd (ns_kd a0 = 8) <| grd (ns_kd a1 = 3) <| ite2 (x2 ≤ (σ.1 a1 1)) (g_N_mulesTold_15 ns_F σ a0 a1 x2 (0 : Int32) (0 : Int32)) (some ((-1 : Int32), σ))
theorem t_N_mulesTold_15 (G : ns_G) (l : Launch) {p : Program} {e : Env} {s : State} {m : MethodId} {args : Array Value} {below : List Frame} {meth : Method} {c : Code} (C : ns_Cx G p s m args meth c prog_1_method_59_code "NinthStep" 7) (hr : meth.sig.returnType = (some .int)) {r : Int32} {σ' : ns_St}  : ∀ (f : Nat) (σ : ns_St) (a0 : Nat) (a1 : Nat) (x2 : Int32) (x3 : Int32) (x4 : Int32) (hk_a0 : ns_kd a0 = 8) (hk_a1 : ns_kd a1 = 3), g_N_mulesTold_15 f σ a0 a1 x2 x3 x4 = some (r, σ') → VV G p l e { frames := 2, cells := 0, slots := 0, locals := 41 } s m args below meth c 7 0 0 (MQ below (ns_Qc G (some (.int r)) ns_N σ') args s 0 0 (ns_A G)) ns_N σ 15 [(0, .ref (G.1 + a0)), (1, .ref (G.1 + a1)), (2, .int x2), (3, .int x3), (4, .int x4)] [] := by
  intro f
  induction f with
  | zero =>
    intro σ a0 a1 x2 x3 x4 hk_a0 hk_a1 hf
    cases hf
  | succ f ih =>
    intro σ a0 a1 x2 x3 x4 hk_a0 hk_a1 hf
    rw [g_N_mulesTold_15] at hf
    refine v_iload C 4 4 rfl 17 rfl (by decide +kernel) ?_
    refine v_iload_n C 2 2 rfl 18 rfl (by decide +kernel) ?_
    refine v_icmp_ge C 76 21 rfl (by decide +kernel) (fun h11 => ?_) (fun h11 => ?_)
    · have hf := ite2_t hf h11
      refine v_iload_n C 3 3 rfl 77 rfl (by decide +kernel) ?_
      cases hf
      exact v_iret C hr (by decide +kernel)
    · have hf := ite2_f hf h11
      refine v_aload_n C 1 1 rfl 22 rfl (by decide +kernel) ?_
      refine v_iload C 4 4 rfl 24 rfl (by decide +kernel) ?_
      obtain ⟨r13, σ12, hcr13, hf⟩ := cl2_e hf
      refine v_cVN C 3 rfl (ns_kd_lt hk_a1 (by decide)) hk_a1 (by decide) [.int x4] [] (c_Shelf_cellAt G l σ a1 x4 hcr13) 113 1 tw_377 tw_374 tw_376 ts_6 tw_9 hd_Shelf_cellAt rfl ⟨(Nat.le_of_ble_eq_true rfl), (Nat.le_of_ble_eq_true rfl)⟩ ⟨(Nat.le_of_ble_eq_true rfl), (Nat.le_of_ble_eq_true rfl)⟩ (Nat.le_of_ble_eq_true rfl) rfl 27 rfl (by decide +kernel) [.long r13] rfl ?_
      refine v_lstore C 5 [(5, .long r13), (0, .ref (G.1 + a0)), (1, .ref (G.1 + a1)), (2, .int x2), (3, .int x3), (4, .int x4)] (by decide) rfl 29 rfl (by decide +kernel) ?_
      refine v_lload C 5 0 rfl 31 rfl (by decide +kernel) ?_
      refine v_lconst C 0 (0) (by decide) 32 rfl (by decide +kernel) ?_
      refine v_lcmp C 33 rfl (by decide +kernel) ?_
      refine v_if_lt C 60 36 rfl (by decide +kernel) (fun h14 => ?_) (fun h14 => ?_)
      · have hf := ite2_t hf h14
        refine v_iconst C (-1) (-1) (by decide) 61 rfl (by decide +kernel) ?_
        cases hf
        exact v_iret C hr (by decide +kernel)
      · have hf := ite2_f hf h14
        refine v_lload C 5 0 rfl 38 rfl (by decide +kernel) ?_
        refine v_aload_n C 0 1 rfl 39 rfl (by decide +kernel) ?_
        obtain ⟨b15, hb15, hf⟩ := drf_e hf
        obtain ⟨hk_b15, hf⟩ := grd_e hf
        refine v_getR C 8 0 hb15 rfl nin_8 (ns_kd_lt hk_a0 (by decide)) hk_a0 (by decide) (by decide) rfl 12 tw_287 rfl 42 rfl (by decide +kernel) ?_
        refine v_getIN C 7 2 rfl nin_7 (ns_kd_lt hk_b15 (by decide)) hk_b15 (by decide) (by decide) rfl 135 tw_135 rfl 45 rfl (by decide +kernel) ?_
        refine v_i2l C 46 rfl (by decide +kernel) ?_
        refine v_lcmp C 47 rfl (by decide +kernel) ?_
        refine v_if_ge C 60 50 rfl (by decide +kernel) (fun h16 => ?_) (fun h16 => ?_)
        · have hf := ite2_t hf h16
          refine v_iconst C (-1) (-1) (by decide) 61 rfl (by decide +kernel) ?_
          cases hf
          exact v_iret C hr (by decide +kernel)
        · have hf := ite2_f hf h16
          refine v_iload_n C 3 4 rfl 51 rfl (by decide +kernel) ?_
          refine v_lload C 5 0 rfl 53 rfl (by decide +kernel) ?_
          refine v_l2i C 54 rfl (by decide +kernel) ?_
          refine v_ishr C 55 rfl (by decide +kernel) ?_
          refine v_iconst C (1) (1) (by decide) 56 rfl (by decide +kernel) ?_
          refine v_iand C 57 rfl (by decide +kernel) ?_
          refine v_if_eq C 62 60 rfl (by decide +kernel) (fun h17 => ?_) (fun h17 => ?_)
          · have hf := ite2_t hf h17
            refine v_iload_n C 3 4 rfl 63 rfl (by decide +kernel) ?_
            refine v_iconst C (1) (1) (by decide) 64 rfl (by decide +kernel) ?_
            refine v_lload C 5 0 rfl 66 rfl (by decide +kernel) ?_
            refine v_l2i C 67 rfl (by decide +kernel) ?_
            refine v_ishl C 68 rfl (by decide +kernel) ?_
            refine v_ior C 69 rfl (by decide +kernel) ?_
            obtain ⟨z18, hz18, hf⟩ := bnd_e hf
            refine v_nmI hz18 ?_
            refine v_istore_n C 3 [(3, .int z18), (5, .long r13), (0, .ref (G.1 + a0)), (1, .ref (G.1 + a1)), (2, .int x2), (4, .int x4)] (by decide) rfl 70 rfl (by decide +kernel) ?_
            obtain ⟨z19, hz19, hf⟩ := bnd_e hf
            refine v_iinc C 4 (1) 5 z19 rfl (by rw [hz19]; rfl) [(4, .int z19), (3, .int z18), (5, .long r13), (0, .ref (G.1 + a0)), (1, .ref (G.1 + a1)), (2, .int x2)] (by decide) rfl 73 rfl (by decide +kernel) ?_
            refine v_goto C 15 (by decide +kernel) ?_
            refine v_sub [3, 4, 5, 1, 0] rfl ?_
            exact ih σ12 a0 a1 x2 z18 z19 hk_a0 hk_a1 hf
          · have hf := ite2_f hf h17
            refine v_iconst C (-1) (-1) (by decide) 61 rfl (by decide +kernel) ?_
            cases hf
            exact v_iret C hr (by decide +kernel)
theorem c_N_mulesTold (G : ns_G) (l : Launch) (σ : ns_St) (a0 : Nat) (a1 : Nat) (x2 : Int32) {r : Int32} {σ' : ns_St} (hf : g_N_mulesTold σ a0 a1 x2 = some (r, σ')) : ns_ok G l ⟨"NinthStep", "mulesTold", "(LNinthStep$Shelf;I)I"⟩ prog_1_method_59_code 7 (some .int) 2 41 0 0 [.ref (G.1 + a0), .ref (G.1 + a1), .int x2] ns_N σ (some (.int r)) ns_N σ' := by
  refine v_open (by decide) (Nat.le_of_ble_eq_true rfl) rfl ?_
  intro p e s m below meth c C hr _
  have C : ns_Cx G p s m _ meth c prog_1_method_59_code "NinthStep" 7 := C
  unfold g_N_mulesTold at hf
  obtain ⟨hk_a0, hf⟩ := grd_e hf
  obtain ⟨hk_a1, hf⟩ := grd_e hf
  refine v_aload_n C 1 1 rfl 1 rfl (by decide +kernel) ?_
  refine v_getIN C 3 1 rfl nin_3 (ns_kd_lt hk_a1 (by decide)) hk_a1 (by decide) (by decide) rfl 91 tw_277 rfl 4 rfl (by decide +kernel) ?_
  refine v_iload_n C 2 2 rfl 5 rfl (by decide +kernel) ?_
  refine v_icmp_ge C 10 8 rfl (by decide +kernel) (fun h20 => ?_) (fun h20 => ?_)
  · have hf := ite2_t hf h20
    refine v_iconst C (0) (0) (by decide) 11 rfl (by decide +kernel) ?_
    refine v_istore_n C 3 [(3, .int (0 : Int32)), (0, .ref (G.1 + a0)), (1, .ref (G.1 + a1)), (2, .int x2)] (by decide) rfl 12 rfl (by decide +kernel) ?_
    refine v_iconst C (0) (0) (by decide) 13 rfl (by decide +kernel) ?_
    refine v_istore C 4 [(4, .int (0 : Int32)), (3, .int (0 : Int32)), (0, .ref (G.1 + a0)), (1, .ref (G.1 + a1)), (2, .int x2)] (by decide) rfl 15 rfl (by decide +kernel) ?_
    refine v_sub [2, 3, 4, 1, 0] rfl ?_
    exact t_N_mulesTold_15 G l C hr  ns_F σ a0 a1 x2 (0 : Int32) (0 : Int32) hk_a0 hk_a1 hf
  · have hf := ite2_f hf h20
    refine v_iconst C (-1) (-1) (by decide) 9 rfl (by decide +kernel) ?_
    cases hf
    exact v_iret C hr (by decide +kernel)
theorem hd_N_mulesTold : (⟨"NinthStep", "mulesTold", "(LNinthStep$Shelf;I)I"⟩ : MethodName).cls = "NinthStep" ∧ (⟨"NinthStep", "mulesTold", "(LNinthStep$Shelf;I)I"⟩ : MethodName).cls ≠ "java/lang/invoke/MethodHandle" ∧ (⟨"NinthStep", "mulesTold", "(LNinthStep$Shelf;I)I"⟩ : MethodName).cls ≠ "java/lang/invoke/VarHandle" ∧ (parseMethodDescriptor (⟨"NinthStep", "mulesTold", "(LNinthStep$Shelf;I)I"⟩ : MethodName).desc).map (fun d => d.parameters.length) = some 2 := by decide +kernel
