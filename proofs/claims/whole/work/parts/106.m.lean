def g_TurnPlan_needWith_113  (σ : ns_St) (s0 : Int32) (a0 : Nat) (x1 : Int32) (x3 : Int32) (x4 : Int32) : Option (Int32 × ns_St) := ite2 (x4 = 0) (some ((1000 : Int32), σ)) (ite2 (s0 = 0) (drf (σ.2.2 a0 0) fun b43 => grd (ns_kd b43 = 10) <| drf (σ.2.2 a0 2) fun b44 => grd (ns_kd b44 = 2) <| cl2 (g_Mule_cappedCount σ b44) fun r46 σ45 => cl2 (g_TurnPlan_cellOf σ45 (x1 + (1 : Int32)) r46) fun r48 σ47 => grd (ns_in r48 (ns_ln b43)) <| cl2 (g_Math_min σ47 (1000 : Int32) (x3 + (σ47.1 b43 (ns_ix r48)))) fun r51 σ50 => some (r51, σ50)) (some ((1000 : Int32), σ)))
def g_TurnPlan_needWith_112  (σ : ns_St) (a0 : Nat) (x1 : Int32) (x3 : Int32) (x4 : Int32) : Option (Int32 × ns_St) := g_TurnPlan_needWith_113 σ (0 : Int32) a0 x1 x3 x4
def g_TurnPlan_needWith_26  : Nat → ns_St → Nat → Int32 → Int32 → Int32 → Int32 → Option (Int32 × ns_St)
  | 0, _, _, _, _, _, _ => none
  | f + 1, σ, a0, x1, x3, x4, x5 => ite2 (x3 ≤ x5) (drf (σ.2.2 a0 2) fun b53 => grd (ns_kd b53 = 2) <| drf (σ.2.2 a0 3) fun b54 => grd (ns_kd b54 = 1) <| cl2 (g_Mule_makeStep σ b53 b54 (0 : Int32)) fun r56 σ55 => ite2 (r56 = 0) (g_TurnPlan_needWith_112 σ55 a0 x1 x3 x4) (drf (σ55.2.2 a0 3) fun b58 => grd (ns_kd b58 = 1) <| drf (σ55.2.2 a0 2) fun b59 => grd (ns_kd b59 = 2) <| cl2 (g_N_isIn σ55 (σ55.2.1 b58 3) (σ55.1 b59 2)) fun r61 σ60 => ite2 (r61 = 0) (g_TurnPlan_needWith_112 σ60 a0 x1 x3 x4) (g_TurnPlan_needWith_113 σ60 (1 : Int32) a0 x1 x3 x4))) (drf (σ.2.2 a0 2) fun b63 => grd (ns_kd b63 = 2) <| drf (σ.2.2 a0 3) fun b64 => grd (ns_kd b64 = 1) <| cl2 (g_Mule_makeTurn σ b63 b64) fun r66 σ65 => ite2 (r66 = 0) (bnd (x5 + 1) fun z68 => (g_TurnPlan_needWith_26 f) σ65 a0 x1 x3 x4 z68) (drf (σ65.2.2 a0 3) fun b69 => grd (ns_kd b69 = 1) <| cl2 (g_N_isIn σ65 (σ65.2.1 b69 3) x1) fun r71 σ70 => ite2 (r71 = 0) (bnd (x5 + 1) fun z73 => (g_TurnPlan_needWith_26 f) σ70 a0 x1 x3 (1 : Int32) z73) (some ((1000 : Int32), σ70))))
def g_TurnPlan_needWith (σ : ns_St) (a0 : Nat) (x1 : Int32) (x2 : Int32) (x3 : Int32) : Option (Int32 × ns_St) := grd (ns_kd a0 = 6) <| drf (σ.2.2 a0 2) fun b74 => grd (ns_kd b74 = 2) <| drf (σ.2.2 a0 1) fun b75 => grd (ns_kd b75 = 10) <| grd (ns_in x1 (ns_ln b75)) <| cl2 (g_Mule_standAt σ b74 x1 x2 (σ.1 b75 (ns_ix x1))) fun r78 σ77 => cl2 (g_TurnPlan_hasSeen σ77 a0 x1 x2) fun r80 σ79 => g_TurnPlan_needWith_26 ns_F σ79 a0 x1 x3 r80 (0 : Int32)
theorem t_TurnPlan_needWith_113 (G : ns_G) (l : Launch) {p : Program} {e : Env} {s : State} {m : MethodId} {args : Array Value} {below : List Frame} {meth : Method} {c : Code} (C : ns_Cx G p s m args meth c prog_8_method_6_code "NinthStep$TurnPlan" 6) (hr : meth.sig.returnType = (some .int)) {r : Int32} {σ' : ns_St}  (σ : ns_St) (s0 : Int32) (a0 : Nat) (x1 : Int32) (x3 : Int32) (x4 : Int32) (hk_a0 : ns_kd a0 = 6) (hf : g_TurnPlan_needWith_113 σ s0 a0 x1 x3 x4 = some (r, σ')) : VV G p l e { frames := 2, cells := 0, slots := 0, locals := 45 } s m args below meth c 6 0 0 (MQ below (ns_Qc G (some (.int r)) ns_N σ') args s 0 0 (ns_A G)) ns_N σ 113 [(0, .ref (G.1 + a0)), (1, .int x1), (3, .int x3), (4, .int x4)] [.int s0] := by
  unfold g_TurnPlan_needWith_113 at hf
  refine v_istore C 5 [(5, .int s0), (0, .ref (G.1 + a0)), (1, .int x1), (3, .int x3), (4, .int x4)] (by decide) rfl 115 rfl (by decide +kernel) ?_
  refine v_iload C 4 4 rfl 117 rfl (by decide +kernel) ?_
  refine v_if_eq C 125 120 rfl (by decide +kernel) (fun h41 => ?_) (fun h41 => ?_)
  · have hf := ite2_t hf h41
    refine v_sipush C (1000) (1000) (by decide) 128 rfl (by decide +kernel) ?_
    obtain ⟨rfl, rfl⟩ := ret_e hf
    exact v_iret C hr (by decide +kernel)
  · have hf := ite2_f hf h41
    refine v_iload C 5 0 rfl 122 rfl (by decide +kernel) ?_
    refine v_if_eq C 129 125 rfl (by decide +kernel) (fun h42 => ?_) (fun h42 => ?_)
    · have hf := ite2_t hf h42
      refine v_sipush C (1000) (1000) (by decide) 132 rfl (by decide +kernel) ?_
      refine v_iload_n C 3 3 rfl 133 rfl (by decide +kernel) ?_
      refine v_aload_n C 0 1 rfl 134 rfl (by decide +kernel) ?_
      obtain ⟨b43, hb43, hf⟩ := drf_e hf
      obtain ⟨hk_b43, hf⟩ := grd_e hf
      refine v_getR C 6 0 hb43 rfl nin_6 (ns_kd_lt hk_a0 (by decide)) hk_a0 (by decide) (by decide) rfl 11 tw_193 rfl 137 rfl (by decide +kernel) ?_
      refine v_iload_n C 1 2 rfl 138 rfl (by decide +kernel) ?_
      refine v_iconst C (1) (1) (by decide) 139 rfl (by decide +kernel) ?_
      refine v_iadd C 140 rfl (by decide +kernel) ?_
      refine v_aload_n C 0 1 rfl 141 rfl (by decide +kernel) ?_
      obtain ⟨b44, hb44, hf⟩ := drf_e hf
      obtain ⟨hk_b44, hf⟩ := grd_e hf
      refine v_getR C 6 2 hb44 rfl nin_6 (ns_kd_lt hk_a0 (by decide)) hk_a0 (by decide) (by decide) rfl 21 tw_195 rfl 144 rfl (by decide +kernel) ?_
      obtain ⟨r46, σ45, hcr46, hf⟩ := cl2_e hf
      refine v_cVN C 2 rfl (ns_kd_lt hk_b44 (by decide)) hk_b44 (by decide) [] [.int (x1 + (1 : Int32)), .ref (G.1 + b43), .int x3, .int (1000 : Int32)] (c_Mule_cappedCount G l σ b44 hcr46) 36 0 tw_715 tw_712 tw_714 ts_39 tw_4 hd_Mule_cappedCount rfl ⟨(Nat.le_of_ble_eq_true rfl), (Nat.le_of_ble_eq_true rfl)⟩ ⟨(Nat.le_of_ble_eq_true rfl), (Nat.le_of_ble_eq_true rfl)⟩ (Nat.le_of_ble_eq_true rfl) rfl 147 rfl (by decide +kernel) [.int r46, .int (x1 + (1 : Int32)), .ref (G.1 + b43), .int x3, .int (1000 : Int32)] rfl ?_
      obtain ⟨r48, σ47, hcr48, hf⟩ := cl2_e hf
      refine v_cS C [.int (x1 + (1 : Int32)), .int r46] [.ref (G.1 + b43), .int x3, .int (1000 : Int32)] (c_TurnPlan_cellOf G l σ45 (x1 + (1 : Int32)) r46 hcr48) 52 2 tw_721 tw_719 tw_720 tw_6 hd_TurnPlan_cellOf rfl ⟨(Nat.le_of_ble_eq_true rfl), (Nat.le_of_ble_eq_true rfl)⟩ ⟨(Nat.le_of_ble_eq_true rfl), (Nat.le_of_ble_eq_true rfl)⟩ (Nat.le_of_ble_eq_true rfl) rfl 150 rfl (by decide +kernel) [.int r48, .ref (G.1 + b43), .int x3, .int (1000 : Int32)] rfl ?_
      obtain ⟨hi49, hf⟩ := grd_e hf
      refine v_iald C (ns_kd_lt hk_b43 (by decide)) hk_b43 hi49 151 rfl (by decide +kernel) ?_
      refine v_iadd C 152 rfl (by decide +kernel) ?_
      obtain ⟨r51, σ50, hcr51, hf⟩ := cl2_e hf
      refine v_cS C [.int (1000 : Int32), .int (x3 + (σ47.1 b43 (ns_ix r48)))] [] (c_Math_min G l σ47 (1000 : Int32) (x3 + (σ47.1 b43 (ns_ix r48))) hcr51) 71 2 tw_663 tw_722 tw_662 tw_18 hd_Math_min rfl ⟨(Nat.le_of_ble_eq_true rfl), (Nat.le_of_ble_eq_true rfl)⟩ ⟨(Nat.le_of_ble_eq_true rfl), (Nat.le_of_ble_eq_true rfl)⟩ (Nat.le_of_ble_eq_true rfl) rfl 155 rfl (by decide +kernel) [.int r51] rfl ?_
      obtain ⟨rfl, rfl⟩ := ret_e hf
      exact v_iret C hr (by decide +kernel)
    · have hf := ite2_f hf h42
      refine v_sipush C (1000) (1000) (by decide) 128 rfl (by decide +kernel) ?_
      obtain ⟨rfl, rfl⟩ := ret_e hf
      exact v_iret C hr (by decide +kernel)
theorem t_TurnPlan_needWith_112 (G : ns_G) (l : Launch) {p : Program} {e : Env} {s : State} {m : MethodId} {args : Array Value} {below : List Frame} {meth : Method} {c : Code} (C : ns_Cx G p s m args meth c prog_8_method_6_code "NinthStep$TurnPlan" 6) (hr : meth.sig.returnType = (some .int)) {r : Int32} {σ' : ns_St}  (σ : ns_St) (a0 : Nat) (x1 : Int32) (x3 : Int32) (x4 : Int32) (hk_a0 : ns_kd a0 = 6) (hf : g_TurnPlan_needWith_112 σ a0 x1 x3 x4 = some (r, σ')) : VV G p l e { frames := 2, cells := 0, slots := 0, locals := 45 } s m args below meth c 6 0 0 (MQ below (ns_Qc G (some (.int r)) ns_N σ') args s 0 0 (ns_A G)) ns_N σ 112 [(0, .ref (G.1 + a0)), (1, .int x1), (3, .int x3), (4, .int x4)] [] := by
  unfold g_TurnPlan_needWith_112 at hf
  refine v_iconst C (0) (0) (by decide) 113 rfl (by decide +kernel) ?_
  exact t_TurnPlan_needWith_113 G l C hr  σ (0 : Int32) a0 x1 x3 x4 hk_a0 hf
theorem t_TurnPlan_needWith_26 (G : ns_G) (l : Launch) {p : Program} {e : Env} {s : State} {m : MethodId} {args : Array Value} {below : List Frame} {meth : Method} {c : Code} (C : ns_Cx G p s m args meth c prog_8_method_6_code "NinthStep$TurnPlan" 6) (hr : meth.sig.returnType = (some .int)) {r : Int32} {σ' : ns_St}  : ∀ (f : Nat) (σ : ns_St) (a0 : Nat) (x1 : Int32) (x3 : Int32) (x4 : Int32) (x5 : Int32) (hk_a0 : ns_kd a0 = 6), g_TurnPlan_needWith_26 f σ a0 x1 x3 x4 x5 = some (r, σ') → VV G p l e { frames := 2, cells := 0, slots := 0, locals := 45 } s m args below meth c 6 0 0 (MQ below (ns_Qc G (some (.int r)) ns_N σ') args s 0 0 (ns_A G)) ns_N σ 26 [(0, .ref (G.1 + a0)), (1, .int x1), (3, .int x3), (4, .int x4), (5, .int x5)] [] := by
  intro f
  induction f with
  | zero =>
    intro σ a0 x1 x3 x4 x5 hk_a0 hf
    cases hf
  | succ f ih =>
    intro σ a0 x1 x3 x4 x5 hk_a0 hf
    rw [g_TurnPlan_needWith_26] at hf
    refine v_iload C 5 4 rfl 28 rfl (by decide +kernel) ?_
    refine v_iload_n C 3 2 rfl 29 rfl (by decide +kernel) ?_
    refine v_icmp_ge C 73 32 rfl (by decide +kernel) (fun h52 => ?_) (fun h52 => ?_)
    · have hf := ite2_t hf h52
      refine v_aload_n C 0 0 rfl 74 rfl (by decide +kernel) ?_
      obtain ⟨b53, hb53, hf⟩ := drf_e hf
      obtain ⟨hk_b53, hf⟩ := grd_e hf
      refine v_getR C 6 2 hb53 rfl nin_6 (ns_kd_lt hk_a0 (by decide)) hk_a0 (by decide) (by decide) rfl 21 tw_195 rfl 77 rfl (by decide +kernel) ?_
      refine v_aload_n C 0 0 rfl 78 rfl (by decide +kernel) ?_
      obtain ⟨b54, hb54, hf⟩ := drf_e hf
      obtain ⟨hk_b54, hf⟩ := grd_e hf
      refine v_getR C 6 3 hb54 rfl nin_6 (ns_kd_lt hk_a0 (by decide)) hk_a0 (by decide) (by decide) rfl 25 tw_196 rfl 81 rfl (by decide +kernel) ?_
      refine v_iconst C (0) (0) (by decide) 82 rfl (by decide +kernel) ?_
      obtain ⟨r56, σ55, hcr56, hf⟩ := cl2_e hf
      refine v_cVN C 2 rfl (ns_kd_lt hk_b53 (by decide)) hk_b53 (by decide) [.ref (G.1 + b54), .int (0 : Int32)] [] (c_Mule_makeStep G l σ b53 b54 (0 : Int32) hcr56) 92 2 tw_656 tw_742 tw_655 ts_32 tw_4 hd_Mule_makeStep rfl ⟨(Nat.le_of_ble_eq_true rfl), (Nat.le_of_ble_eq_true rfl)⟩ ⟨(Nat.le_of_ble_eq_true rfl), (Nat.le_of_ble_eq_true rfl)⟩ (Nat.le_of_ble_eq_true rfl) rfl 85 rfl (by decide +kernel) [.int r56] rfl ?_
      refine v_if_eq C 112 88 rfl (by decide +kernel) (fun h57 => ?_) (fun h57 => ?_)
      · have hf := ite2_t hf h57
        refine v_sub [0, 1, 2, 3] rfl ?_
        exact t_TurnPlan_needWith_112 G l C hr  σ55 a0 x1 x3 x4 hk_a0 hf
      · have hf := ite2_f hf h57
        refine v_aload_n C 0 0 rfl 89 rfl (by decide +kernel) ?_
        obtain ⟨b58, hb58, hf⟩ := drf_e hf
        obtain ⟨hk_b58, hf⟩ := grd_e hf
        refine v_getR C 6 3 hb58 rfl nin_6 (ns_kd_lt hk_a0 (by decide)) hk_a0 (by decide) (by decide) rfl 25 tw_196 rfl 92 rfl (by decide +kernel) ?_
        refine v_getJN C 1 3 rfl nin_1 (ns_kd_lt hk_b58 (by decide)) hk_b58 (by decide) (by decide) rfl 84 tw_56 rfl 95 rfl (by decide +kernel) ?_
        refine v_aload_n C 0 0 rfl 96 rfl (by decide +kernel) ?_
        obtain ⟨b59, hb59, hf⟩ := drf_e hf
        obtain ⟨hk_b59, hf⟩ := grd_e hf
        refine v_getR C 6 2 hb59 rfl nin_6 (ns_kd_lt hk_a0 (by decide)) hk_a0 (by decide) (by decide) rfl 21 tw_195 rfl 99 rfl (by decide +kernel) ?_
        refine v_getIN C 2 2 rfl nin_2 (ns_kd_lt hk_b59 (by decide)) hk_b59 (by decide) (by decide) rfl 29 tw_87 rfl 102 rfl (by decide +kernel) ?_
        obtain ⟨r61, σ60, hcr61, hf⟩ := cl2_e hf
        refine v_cSN C [.long (σ55.2.1 b58 3), .int (σ55.1 b59 2)] [] (c_N_isIn G l σ55 (σ55.2.1 b58 3) (σ55.1 b59 2) hcr61) 88 2 tw_455 tw_728 tw_454 tw_1 hd_N_isIn rfl ⟨(Nat.le_of_ble_eq_true rfl), (Nat.le_of_ble_eq_true rfl)⟩ ⟨(Nat.le_of_ble_eq_true rfl), (Nat.le_of_ble_eq_true rfl)⟩ (Nat.le_of_ble_eq_true rfl) rfl 105 rfl (by decide +kernel) [.int r61] rfl ?_
        refine v_if_eq C 112 108 rfl (by decide +kernel) (fun h62 => ?_) (fun h62 => ?_)
        · have hf := ite2_t hf h62
          refine v_sub [0, 1, 2, 3] rfl ?_
          exact t_TurnPlan_needWith_112 G l C hr  σ60 a0 x1 x3 x4 hk_a0 hf
        · have hf := ite2_f hf h62
          refine v_iconst C (1) (1) (by decide) 109 rfl (by decide +kernel) ?_
          refine v_goto C 113 (by decide +kernel) ?_
          refine v_sub [0, 1, 2, 3] rfl ?_
          exact t_TurnPlan_needWith_113 G l C hr  σ60 (1 : Int32) a0 x1 x3 x4 hk_a0 hf
    · have hf := ite2_f hf h52
      refine v_aload_n C 0 0 rfl 33 rfl (by decide +kernel) ?_
      obtain ⟨b63, hb63, hf⟩ := drf_e hf
      obtain ⟨hk_b63, hf⟩ := grd_e hf
      refine v_getR C 6 2 hb63 rfl nin_6 (ns_kd_lt hk_a0 (by decide)) hk_a0 (by decide) (by decide) rfl 21 tw_195 rfl 36 rfl (by decide +kernel) ?_
      refine v_aload_n C 0 0 rfl 37 rfl (by decide +kernel) ?_
      obtain ⟨b64, hb64, hf⟩ := drf_e hf
      obtain ⟨hk_b64, hf⟩ := grd_e hf
      refine v_getR C 6 3 hb64 rfl nin_6 (ns_kd_lt hk_a0 (by decide)) hk_a0 (by decide) (by decide) rfl 25 tw_196 rfl 40 rfl (by decide +kernel) ?_
      obtain ⟨r66, σ65, hcr66, hf⟩ := cl2_e hf
      refine v_cVN C 2 rfl (ns_kd_lt hk_b63 (by decide)) hk_b63 (by decide) [.ref (G.1 + b64)] [] (c_Mule_makeTurn G l σ b63 b64 hcr66) 80 1 tw_741 tw_738 tw_740 ts_43 tw_4 hd_Mule_makeTurn rfl ⟨(Nat.le_of_ble_eq_true rfl), (Nat.le_of_ble_eq_true rfl)⟩ ⟨(Nat.le_of_ble_eq_true rfl), (Nat.le_of_ble_eq_true rfl)⟩ (Nat.le_of_ble_eq_true rfl) rfl 43 rfl (by decide +kernel) [.int r66] rfl ?_
      refine v_if_eq C 67 46 rfl (by decide +kernel) (fun h67 => ?_) (fun h67 => ?_)
      · have hf := ite2_t hf h67
        obtain ⟨z68, hz68, hf⟩ := bnd_e hf
        refine v_iinc C 5 (1) 4 z68 rfl (by rw [hz68]; rfl) [(5, .int z68), (0, .ref (G.1 + a0)), (1, .int x1), (3, .int x3), (4, .int x4)] (by decide) rfl 70 rfl (by decide +kernel) ?_
        refine v_goto C 26 (by decide +kernel) ?_
        refine v_sub [1, 2, 3, 4, 0] rfl ?_
        exact ih σ65 a0 x1 x3 x4 z68 hk_a0 hf
      · have hf := ite2_f hf h67
        refine v_aload_n C 0 0 rfl 47 rfl (by decide +kernel) ?_
        obtain ⟨b69, hb69, hf⟩ := drf_e hf
        obtain ⟨hk_b69, hf⟩ := grd_e hf
        refine v_getR C 6 3 hb69 rfl nin_6 (ns_kd_lt hk_a0 (by decide)) hk_a0 (by decide) (by decide) rfl 25 tw_196 rfl 50 rfl (by decide +kernel) ?_
        refine v_getJN C 1 3 rfl nin_1 (ns_kd_lt hk_b69 (by decide)) hk_b69 (by decide) (by decide) rfl 84 tw_56 rfl 53 rfl (by decide +kernel) ?_
        refine v_iload_n C 1 1 rfl 54 rfl (by decide +kernel) ?_
        obtain ⟨r71, σ70, hcr71, hf⟩ := cl2_e hf
        refine v_cSN C [.long (σ65.2.1 b69 3), .int x1] [] (c_N_isIn G l σ65 (σ65.2.1 b69 3) x1 hcr71) 88 2 tw_455 tw_728 tw_454 tw_1 hd_N_isIn rfl ⟨(Nat.le_of_ble_eq_true rfl), (Nat.le_of_ble_eq_true rfl)⟩ ⟨(Nat.le_of_ble_eq_true rfl), (Nat.le_of_ble_eq_true rfl)⟩ (Nat.le_of_ble_eq_true rfl) rfl 57 rfl (by decide +kernel) [.int r71] rfl ?_
        refine v_if_eq C 64 60 rfl (by decide +kernel) (fun h72 => ?_) (fun h72 => ?_)
        · have hf := ite2_t hf h72
          refine v_iconst C (1) (1) (by decide) 65 rfl (by decide +kernel) ?_
          refine v_istore C 4 [(4, .int (1 : Int32)), (0, .ref (G.1 + a0)), (1, .int x1), (3, .int x3), (5, .int x5)] (by decide) rfl 67 rfl (by decide +kernel) ?_
          obtain ⟨z73, hz73, hf⟩ := bnd_e hf
          refine v_iinc C 5 (1) 4 z73 rfl (by rw [hz73]; rfl) [(5, .int z73), (4, .int (1 : Int32)), (0, .ref (G.1 + a0)), (1, .int x1), (3, .int x3)] (by decide) rfl 70 rfl (by decide +kernel) ?_
          refine v_goto C 26 (by decide +kernel) ?_
          refine v_sub [2, 3, 4, 1, 0] rfl ?_
          exact ih σ70 a0 x1 x3 (1 : Int32) z73 hk_a0 hf
        · have hf := ite2_f hf h72
          refine v_sipush C (1000) (1000) (by decide) 63 rfl (by decide +kernel) ?_
          obtain ⟨rfl, rfl⟩ := ret_e hf
          exact v_iret C hr (by decide +kernel)
theorem c_TurnPlan_needWith (G : ns_G) (l : Launch) (σ : ns_St) (a0 : Nat) (x1 : Int32) (x2 : Int32) (x3 : Int32) {r : Int32} {σ' : ns_St} (hf : g_TurnPlan_needWith σ a0 x1 x2 x3 = some (r, σ')) : ns_ok G l ⟨"NinthStep$TurnPlan", "needWith", "(III)I"⟩ prog_8_method_6_code 6 (some .int) 2 45 0 0 [.ref (G.1 + a0), .int x1, .int x2, .int x3] ns_N σ (some (.int r)) ns_N σ' := by
  refine v_open (by decide) (Nat.le_of_ble_eq_true rfl) rfl ?_
  intro p e s m below meth c C hr _
  have C : ns_Cx G p s m _ meth c prog_8_method_6_code "NinthStep$TurnPlan" 6 := C
  unfold g_TurnPlan_needWith at hf
  obtain ⟨hk_a0, hf⟩ := grd_e hf
  refine v_aload_n C 0 0 rfl 1 rfl (by decide +kernel) ?_
  obtain ⟨b74, hb74, hf⟩ := drf_e hf
  obtain ⟨hk_b74, hf⟩ := grd_e hf
  refine v_getR C 6 2 hb74 rfl nin_6 (ns_kd_lt hk_a0 (by decide)) hk_a0 (by decide) (by decide) rfl 21 tw_195 rfl 4 rfl (by decide +kernel) ?_
  refine v_iload_n C 1 1 rfl 5 rfl (by decide +kernel) ?_
  refine v_iload_n C 2 2 rfl 6 rfl (by decide +kernel) ?_
  refine v_aload_n C 0 0 rfl 7 rfl (by decide +kernel) ?_
  obtain ⟨b75, hb75, hf⟩ := drf_e hf
  obtain ⟨hk_b75, hf⟩ := grd_e hf
  refine v_getR C 6 1 hb75 rfl nin_6 (ns_kd_lt hk_a0 (by decide)) hk_a0 (by decide) (by decide) rfl 15 tw_194 rfl 10 rfl (by decide +kernel) ?_
  refine v_iload_n C 1 1 rfl 11 rfl (by decide +kernel) ?_
  obtain ⟨hi76, hf⟩ := grd_e hf
  refine v_iald C (ns_kd_lt hk_b75 (by decide)) hk_b75 hi76 12 rfl (by decide +kernel) ?_
  obtain ⟨r78, σ77, hcr78, hf⟩ := cl2_e hf
  refine v_cVN C 2 rfl (ns_kd_lt hk_b74 (by decide)) hk_b74 (by decide) [.int x1, .int x2, .int (σ.1 b75 (ns_ix x1))] [] (c_Mule_standAt G l σ b74 x1 x2 (σ.1 b75 (ns_ix x1)) hcr78) 76 3 tw_652 tw_737 tw_651 ts_31 tw_4 hd_Mule_standAt rfl ⟨(Nat.le_of_ble_eq_true rfl), (Nat.le_of_ble_eq_true rfl)⟩ ⟨(Nat.le_of_ble_eq_true rfl), (Nat.le_of_ble_eq_true rfl)⟩ (Nat.le_of_ble_eq_true rfl) rfl 15 rfl (by decide +kernel) [] rfl ?_
  refine v_aload_n C 0 0 rfl 16 rfl (by decide +kernel) ?_
  refine v_iload_n C 1 1 rfl 17 rfl (by decide +kernel) ?_
  refine v_iload_n C 2 2 rfl 18 rfl (by decide +kernel) ?_
  obtain ⟨r80, σ79, hcr80, hf⟩ := cl2_e hf
  refine v_cV C 6 rfl (ns_kd_lt hk_a0 (by decide)) hk_a0 (by decide) [.int x1, .int x2] [] (c_TurnPlan_hasSeen G l σ77 a0 x1 x2 hcr80) 56 2 tw_727 tw_724 tw_726 ts_40 tw_6 hd_TurnPlan_hasSeen rfl ⟨(Nat.le_of_ble_eq_true rfl), (Nat.le_of_ble_eq_true rfl)⟩ ⟨(Nat.le_of_ble_eq_true rfl), (Nat.le_of_ble_eq_true rfl)⟩ (Nat.le_of_ble_eq_true rfl) rfl 21 rfl (by decide +kernel) [.int r80] rfl ?_
  refine v_istore C 4 [(4, .int r80), (0, .ref (G.1 + a0)), (1, .int x1), (2, .int x2), (3, .int x3)] (by decide) rfl 23 rfl (by decide +kernel) ?_
  refine v_iconst C (0) (0) (by decide) 24 rfl (by decide +kernel) ?_
  refine v_istore C 5 [(5, .int (0 : Int32)), (4, .int r80), (0, .ref (G.1 + a0)), (1, .int x1), (2, .int x2), (3, .int x3)] (by decide) rfl 26 rfl (by decide +kernel) ?_
  refine v_sub [2, 3, 5, 1, 0] rfl ?_
  exact t_TurnPlan_needWith_26 G l C hr  ns_F σ79 a0 x1 x3 r80 (0 : Int32) hk_a0 hf
theorem hd_TurnPlan_needWith : (⟨"NinthStep$TurnPlan", "needWith", "(III)I"⟩ : MethodName).cls = "NinthStep$TurnPlan" ∧ (⟨"NinthStep$TurnPlan", "needWith", "(III)I"⟩ : MethodName).cls ≠ "java/lang/invoke/MethodHandle" ∧ (⟨"NinthStep$TurnPlan", "needWith", "(III)I"⟩ : MethodName).cls ≠ "java/lang/invoke/VarHandle" ∧ (parseMethodDescriptor (⟨"NinthStep$TurnPlan", "needWith", "(III)I"⟩ : MethodName).desc).map (fun d => d.parameters.length) = some 3 := by decide +kernel
def g_TurnPlan_fillPlace_61 (kh14 : ns_St → Nat → Int32 → Int32 → Int32 → Option (Unit × ns_St)) (σ : ns_St) (a0 : Nat) (x1 : Int32) (x2 : Int32) (x3 : Int32) (x4 : Int32) : Option (Unit × ns_St) := drf (σ.2.2 a0 0) fun b19 => grd (ns_kd b19 = 10) <| cl2 (g_TurnPlan_cellOf σ x1 x3) fun r21 σ20 => grd (ns_in r21 (ns_ln b19)) <| bnd (ns_pI σ20 b19 (ns_ix r21) x4) fun σ23 => bnd (x3 + 1) fun z24 => kh14 σ23 a0 x1 x2 z24
def g_TurnPlan_fillPlace_27 (kh14 : ns_St → Nat → Int32 → Int32 → Int32 → Option (Unit × ns_St)) : Nat → ns_St → Nat → Int32 → Int32 → Int32 → Int32 → Int32 → Option (Unit × ns_St)
  | 0, _, _, _, _, _, _, _ => none
  | f + 1, σ, a0, x1, x2, x3, x4, x5 => ite2 ((3 : Int32) < x5) (g_TurnPlan_fillPlace_61 kh14 σ a0 x1 x2 x3 x4) (ite2 (x4 ≤ x5) (g_TurnPlan_fillPlace_61 kh14 σ a0 x1 x2 x3 x4) (cl2 (g_TurnPlan_needWith σ a0 x1 x3 x5) fun r28 σ27 => cl2 (g_Math_min σ27 x4 r28) fun r30 σ29 => bnd (x5 + 1) fun z31 => (g_TurnPlan_fillPlace_27 kh14 f) σ29 a0 x1 x2 x3 r30 z31))
def g_TurnPlan_fillPlace_14  : Nat → ns_St → Nat → Int32 → Int32 → Int32 → Option (Unit × ns_St)
  | 0, _, _, _, _, _ => none
  | f + 1, σ, a0, x1, x2, x3 => ite2 (x2 < x3) (some ((), σ)) (g_TurnPlan_fillPlace_27 (g_TurnPlan_fillPlace_14 f) ns_F σ a0 x1 x2 x3 (1000 : Int32) (0 : Int32))
def g_TurnPlan_fillPlace (σ : ns_St) (a0 : Nat) (x1 : Int32) : Option (Unit × ns_St) := grd (ns_kd a0 = 6) <| drf (σ.2.2 a0 1) fun b33 => grd (ns_kd b33 = 10) <| grd (ns_in x1 (ns_ln b33)) <| cl2 (g_Math_min σ (σ.1 b33 (ns_ix x1)) (63 : Int32)) fun r36 σ35 => g_TurnPlan_fillPlace_14 ns_F σ35 a0 x1 r36 (0 : Int32)
theorem t_TurnPlan_fillPlace_61 (G : ns_G) (l : Launch) {p : Program} {e : Env} {s : State} {m : MethodId} {args : Array Value} {below : List Frame} {meth : Method} {c : Code} (C : ns_Cx G p s m args meth c prog_8_method_4_code "NinthStep$TurnPlan" 6) (hr : meth.sig.returnType = none) {r : Unit} {σ' : ns_St} {kh14 : ns_St → Nat → Int32 → Int32 → Int32 → Option (Unit × ns_St)} (hkh14 : ∀ (σ : ns_St) (a0 : Nat) (x1 : Int32) (x2 : Int32) (x3 : Int32), ns_kd a0 = 6 → kh14 σ a0 x1 x2 x3 = some (r, σ') → VV G p l e { frames := 3, cells := 0, slots := 0, locals := 70 } s m args below meth c 6 0 0 (MQ below (ns_Qc G none ns_N σ') args s 0 0 (ns_A G)) ns_N σ 14 [(0, .ref (G.1 + a0)), (1, .int x1), (2, .int x2), (3, .int x3)] []) (σ : ns_St) (a0 : Nat) (x1 : Int32) (x2 : Int32) (x3 : Int32) (x4 : Int32) (hk_a0 : ns_kd a0 = 6) (hf : g_TurnPlan_fillPlace_61 kh14 σ a0 x1 x2 x3 x4 = some (r, σ')) : VV G p l e { frames := 3, cells := 0, slots := 0, locals := 70 } s m args below meth c 6 0 0 (MQ below (ns_Qc G none ns_N σ') args s 0 0 (ns_A G)) ns_N σ 61 [(0, .ref (G.1 + a0)), (1, .int x1), (2, .int x2), (3, .int x3), (4, .int x4)] [] := by
  unfold g_TurnPlan_fillPlace_61 at hf
  refine v_aload_n C 0 0 rfl 62 rfl (by decide +kernel) ?_
  obtain ⟨b19, hb19, hf⟩ := drf_e hf
  obtain ⟨hk_b19, hf⟩ := grd_e hf
  refine v_getR C 6 0 hb19 rfl nin_6 (ns_kd_lt hk_a0 (by decide)) hk_a0 (by decide) (by decide) rfl 11 tw_193 rfl 65 rfl (by decide +kernel) ?_
  refine v_iload_n C 1 1 rfl 66 rfl (by decide +kernel) ?_
  refine v_iload_n C 3 3 rfl 67 rfl (by decide +kernel) ?_
  obtain ⟨r21, σ20, hcr21, hf⟩ := cl2_e hf
  refine v_cS C [.int x1, .int x3] [.ref (G.1 + b19)] (c_TurnPlan_cellOf G l σ x1 x3 hcr21) 52 2 tw_721 tw_719 tw_720 tw_6 hd_TurnPlan_cellOf rfl ⟨(Nat.le_of_ble_eq_true rfl), (Nat.le_of_ble_eq_true rfl)⟩ ⟨(Nat.le_of_ble_eq_true rfl), (Nat.le_of_ble_eq_true rfl)⟩ (Nat.le_of_ble_eq_true rfl) rfl 70 rfl (by decide +kernel) [.int r21, .ref (G.1 + b19)] rfl ?_
  refine v_iload C 4 4 rfl 72 rfl (by decide +kernel) ?_
  obtain ⟨hi22, hf⟩ := grd_e hf
  obtain ⟨σ23, hσ23, hf⟩ := bnd_e hf
  refine v_iast C hσ23 (ns_kd_lt hk_b19 (by decide)) hk_b19 hi22 73 rfl (by decide +kernel) ?_
  obtain ⟨z24, hz24, hf⟩ := bnd_e hf
  refine v_iinc C 3 (1) 3 z24 rfl (by rw [hz24]; rfl) [(3, .int z24), (0, .ref (G.1 + a0)), (1, .int x1), (2, .int x2), (4, .int x4)] (by decide) rfl 76 rfl (by decide +kernel) ?_
  refine v_goto C 14 (by decide +kernel) ?_
  refine v_sub [1, 2, 3, 0] rfl ?_
  exact hkh14 σ23 a0 x1 x2 z24 hk_a0 hf
theorem t_TurnPlan_fillPlace_27 (G : ns_G) (l : Launch) {p : Program} {e : Env} {s : State} {m : MethodId} {args : Array Value} {below : List Frame} {meth : Method} {c : Code} (C : ns_Cx G p s m args meth c prog_8_method_4_code "NinthStep$TurnPlan" 6) (hr : meth.sig.returnType = none) {r : Unit} {σ' : ns_St} {kh14 : ns_St → Nat → Int32 → Int32 → Int32 → Option (Unit × ns_St)} (hkh14 : ∀ (σ : ns_St) (a0 : Nat) (x1 : Int32) (x2 : Int32) (x3 : Int32), ns_kd a0 = 6 → kh14 σ a0 x1 x2 x3 = some (r, σ') → VV G p l e { frames := 3, cells := 0, slots := 0, locals := 70 } s m args below meth c 6 0 0 (MQ below (ns_Qc G none ns_N σ') args s 0 0 (ns_A G)) ns_N σ 14 [(0, .ref (G.1 + a0)), (1, .int x1), (2, .int x2), (3, .int x3)] []) : ∀ (f : Nat) (σ : ns_St) (a0 : Nat) (x1 : Int32) (x2 : Int32) (x3 : Int32) (x4 : Int32) (x5 : Int32) (hk_a0 : ns_kd a0 = 6), g_TurnPlan_fillPlace_27 kh14 f σ a0 x1 x2 x3 x4 x5 = some (r, σ') → VV G p l e { frames := 3, cells := 0, slots := 0, locals := 70 } s m args below meth c 6 0 0 (MQ below (ns_Qc G none ns_N σ') args s 0 0 (ns_A G)) ns_N σ 27 [(0, .ref (G.1 + a0)), (1, .int x1), (2, .int x2), (3, .int x3), (4, .int x4), (5, .int x5)] [] := by
  intro f
  induction f with
  | zero =>
    intro σ a0 x1 x2 x3 x4 x5 hk_a0 hf
    cases hf
  | succ f ih =>
    intro σ a0 x1 x2 x3 x4 x5 hk_a0 hf
    rw [g_TurnPlan_fillPlace_27] at hf
    refine v_iload C 5 5 rfl 29 rfl (by decide +kernel) ?_
    refine v_iconst C (3) (3) (by decide) 30 rfl (by decide +kernel) ?_
    refine v_icmp_gt C 61 33 rfl (by decide +kernel) (fun h25 => ?_) (fun h25 => ?_)
    · have hf := ite2_t hf h25
      refine v_sub [0, 1, 2, 3, 4] rfl ?_
      exact t_TurnPlan_fillPlace_61 G l C hr hkh14 σ a0 x1 x2 x3 x4 hk_a0 hf
    · have hf := ite2_f hf h25
      refine v_iload C 5 5 rfl 35 rfl (by decide +kernel) ?_
      refine v_iload C 4 4 rfl 37 rfl (by decide +kernel) ?_
      refine v_icmp_ge C 61 40 rfl (by decide +kernel) (fun h26 => ?_) (fun h26 => ?_)
      · have hf := ite2_t hf h26
        refine v_sub [0, 1, 2, 3, 4] rfl ?_
        exact t_TurnPlan_fillPlace_61 G l C hr hkh14 σ a0 x1 x2 x3 x4 hk_a0 hf
      · have hf := ite2_f hf h26
        refine v_iload C 4 4 rfl 42 rfl (by decide +kernel) ?_
        refine v_aload_n C 0 0 rfl 43 rfl (by decide +kernel) ?_
        refine v_iload_n C 1 1 rfl 44 rfl (by decide +kernel) ?_
        refine v_iload_n C 3 3 rfl 45 rfl (by decide +kernel) ?_
        refine v_iload C 5 5 rfl 47 rfl (by decide +kernel) ?_
        obtain ⟨r28, σ27, hcr28, hf⟩ := cl2_e hf
        refine v_cV C 6 rfl (ns_kd_lt hk_a0 (by decide)) hk_a0 (by decide) [.int x1, .int x3, .int x5] [.int x4] (c_TurnPlan_needWith G l σ a0 x1 x3 x5 hcr28) 67 3 tw_736 tw_733 tw_735 ts_42 tw_6 hd_TurnPlan_needWith rfl ⟨(Nat.le_of_ble_eq_true rfl), (Nat.le_of_ble_eq_true rfl)⟩ ⟨(Nat.le_of_ble_eq_true rfl), (Nat.le_of_ble_eq_true rfl)⟩ (Nat.le_of_ble_eq_true rfl) rfl 50 rfl (by decide +kernel) [.int r28, .int x4] rfl ?_
        obtain ⟨r30, σ29, hcr30, hf⟩ := cl2_e hf
        refine v_cS C [.int x4, .int r28] [] (c_Math_min G l σ27 x4 r28 hcr30) 71 2 tw_663 tw_722 tw_662 tw_18 hd_Math_min rfl ⟨(Nat.le_of_ble_eq_true rfl), (Nat.le_of_ble_eq_true rfl)⟩ ⟨(Nat.le_of_ble_eq_true rfl), (Nat.le_of_ble_eq_true rfl)⟩ (Nat.le_of_ble_eq_true rfl) rfl 53 rfl (by decide +kernel) [.int r30] rfl ?_
        refine v_istore C 4 [(4, .int r30), (0, .ref (G.1 + a0)), (1, .int x1), (2, .int x2), (3, .int x3), (5, .int x5)] (by decide) rfl 55 rfl (by decide +kernel) ?_
        obtain ⟨z31, hz31, hf⟩ := bnd_e hf
        refine v_iinc C 5 (1) 5 z31 rfl (by rw [hz31]; rfl) [(5, .int z31), (4, .int r30), (0, .ref (G.1 + a0)), (1, .int x1), (2, .int x2), (3, .int x3)] (by decide) rfl 58 rfl (by decide +kernel) ?_
        refine v_goto C 27 (by decide +kernel) ?_
        refine v_sub [2, 3, 4, 5, 1, 0] rfl ?_
        exact ih σ29 a0 x1 x2 x3 r30 z31 hk_a0 hf
theorem t_TurnPlan_fillPlace_14 (G : ns_G) (l : Launch) {p : Program} {e : Env} {s : State} {m : MethodId} {args : Array Value} {below : List Frame} {meth : Method} {c : Code} (C : ns_Cx G p s m args meth c prog_8_method_4_code "NinthStep$TurnPlan" 6) (hr : meth.sig.returnType = none) {r : Unit} {σ' : ns_St}  : ∀ (f : Nat) (σ : ns_St) (a0 : Nat) (x1 : Int32) (x2 : Int32) (x3 : Int32) (hk_a0 : ns_kd a0 = 6), g_TurnPlan_fillPlace_14 f σ a0 x1 x2 x3 = some (r, σ') → VV G p l e { frames := 3, cells := 0, slots := 0, locals := 70 } s m args below meth c 6 0 0 (MQ below (ns_Qc G none ns_N σ') args s 0 0 (ns_A G)) ns_N σ 14 [(0, .ref (G.1 + a0)), (1, .int x1), (2, .int x2), (3, .int x3)] [] := by
  intro f
  induction f with
  | zero =>
    intro σ a0 x1 x2 x3 hk_a0 hf
    cases hf
  | succ f ih =>
    intro σ a0 x1 x2 x3 hk_a0 hf
    rw [g_TurnPlan_fillPlace_14] at hf
    refine v_iload_n C 3 3 rfl 15 rfl (by decide +kernel) ?_
    refine v_iload_n C 2 2 rfl 16 rfl (by decide +kernel) ?_
    refine v_icmp_gt C 79 19 rfl (by decide +kernel) (fun h32 => ?_) (fun h32 => ?_)
    · have hf := ite2_t hf h32
      obtain ⟨rfl, rfl⟩ := ret_e hf
      exact v_vret C hr (by decide +kernel)
    · have hf := ite2_f hf h32
      refine v_sipush C (1000) (1000) (by decide) 22 rfl (by decide +kernel) ?_
      refine v_istore C 4 [(4, .int (1000 : Int32)), (0, .ref (G.1 + a0)), (1, .int x1), (2, .int x2), (3, .int x3)] (by decide) rfl 24 rfl (by decide +kernel) ?_
      refine v_iconst C (0) (0) (by decide) 25 rfl (by decide +kernel) ?_
      refine v_istore C 5 [(5, .int (0 : Int32)), (4, .int (1000 : Int32)), (0, .ref (G.1 + a0)), (1, .int x1), (2, .int x2), (3, .int x3)] (by decide) rfl 27 rfl (by decide +kernel) ?_
      refine v_sub [2, 3, 4, 5, 1, 0] rfl ?_
      exact t_TurnPlan_fillPlace_27 G l C hr ih ns_F σ a0 x1 x2 x3 (1000 : Int32) (0 : Int32) hk_a0 hf
theorem c_TurnPlan_fillPlace (G : ns_G) (l : Launch) (σ : ns_St) (a0 : Nat) (x1 : Int32) {r : Unit} {σ' : ns_St} (hf : g_TurnPlan_fillPlace σ a0 x1 = some (r, σ')) : ns_ok G l ⟨"NinthStep$TurnPlan", "fillPlace", "(I)V"⟩ prog_8_method_4_code 6 none 3 70 0 0 [.ref (G.1 + a0), .int x1] ns_N σ none ns_N σ' := by
  refine v_open (by decide) (Nat.le_of_ble_eq_true rfl) rfl ?_
  intro p e s m below meth c C hr _
  have C : ns_Cx G p s m _ meth c prog_8_method_4_code "NinthStep$TurnPlan" 6 := C
  unfold g_TurnPlan_fillPlace at hf
  obtain ⟨hk_a0, hf⟩ := grd_e hf
  refine v_aload_n C 0 0 rfl 1 rfl (by decide +kernel) ?_
  obtain ⟨b33, hb33, hf⟩ := drf_e hf
  obtain ⟨hk_b33, hf⟩ := grd_e hf
  refine v_getR C 6 1 hb33 rfl nin_6 (ns_kd_lt hk_a0 (by decide)) hk_a0 (by decide) (by decide) rfl 15 tw_194 rfl 4 rfl (by decide +kernel) ?_
  refine v_iload_n C 1 1 rfl 5 rfl (by decide +kernel) ?_
  obtain ⟨hi34, hf⟩ := grd_e hf
  refine v_iald C (ns_kd_lt hk_b33 (by decide)) hk_b33 hi34 6 rfl (by decide +kernel) ?_
  refine v_bipush C (63) (63) (by decide) 8 rfl (by decide +kernel) ?_
  obtain ⟨r36, σ35, hcr36, hf⟩ := cl2_e hf
  refine v_cS C [.int (σ.1 b33 (ns_ix x1)), .int (63 : Int32)] [] (c_Math_min G l σ (σ.1 b33 (ns_ix x1)) (63 : Int32) hcr36) 71 2 tw_663 tw_722 tw_662 tw_18 hd_Math_min rfl ⟨(Nat.le_of_ble_eq_true rfl), (Nat.le_of_ble_eq_true rfl)⟩ ⟨(Nat.le_of_ble_eq_true rfl), (Nat.le_of_ble_eq_true rfl)⟩ (Nat.le_of_ble_eq_true rfl) rfl 11 rfl (by decide +kernel) [.int r36] rfl ?_
  refine v_istore_n C 2 [(2, .int r36), (0, .ref (G.1 + a0)), (1, .int x1)] (by decide) rfl 12 rfl (by decide +kernel) ?_
  refine v_iconst C (0) (0) (by decide) 13 rfl (by decide +kernel) ?_
  refine v_istore_n C 3 [(3, .int (0 : Int32)), (2, .int r36), (0, .ref (G.1 + a0)), (1, .int x1)] (by decide) rfl 14 rfl (by decide +kernel) ?_
  refine v_sub [2, 3, 1, 0] rfl ?_
  exact t_TurnPlan_fillPlace_14 G l C hr  ns_F σ35 a0 x1 r36 (0 : Int32) hk_a0 hf
theorem hd_TurnPlan_fillPlace : (⟨"NinthStep$TurnPlan", "fillPlace", "(I)V"⟩ : MethodName).cls = "NinthStep$TurnPlan" ∧ (⟨"NinthStep$TurnPlan", "fillPlace", "(I)V"⟩ : MethodName).cls ≠ "java/lang/invoke/MethodHandle" ∧ (⟨"NinthStep$TurnPlan", "fillPlace", "(I)V"⟩ : MethodName).cls ≠ "java/lang/invoke/VarHandle" ∧ (parseMethodDescriptor (⟨"NinthStep$TurnPlan", "fillPlace", "(I)V"⟩ : MethodName).desc).map (fun d => d.parameters.length) = some 1 := by decide +kernel
def g_TurnPlan_make_99  : Nat → ns_St → Nat → Int32 → Option (Int32 × ns_St)
  | 0, _, _, _ => none
  | f + 1, σ, a0, x3 => ite2 (x3 < (σ.1 a0 4)) (drf (σ.2.2 a0 0) fun b39 => grd (ns_kd b39 = 10) <| cl2 (g_TurnPlan_cellOf σ (σ.1 a0 4) (σ.1 a0 5)) fun r41 σ40 => grd (ns_in r41 (ns_ln b39)) <| bnd (σ40.1 b39 (ns_ix r41)) fun z43 => ite2 (z43 < (1000 : Int32)) (some (z43, σ40)) (some ((-1 : Int32), σ40))) (cl2 (g_TurnPlan_fillPlace σ a0 x3) fun r46 σ45 => bnd (x3 + (-1)) fun z47 => (g_TurnPlan_make_99 f) σ45 a0 z47)
def g_TurnPlan_make_39  : Nat → ns_St → Nat → Int32 → Option (Int32 × ns_St)
  | 0, _, _, _ => none
  | f + 1, σ, a0, x3 => ite2 ((64 : Int32) ≤ x3) (drf (σ.2.2 a0 3) fun b49 => grd (ns_kd b49 = 1) <| bnd ((σ.1 b49 0) - (1 : Int32)) fun z50 => g_TurnPlan_make_99 ns_F σ a0 z50) (drf (σ.2.2 a0 0) fun b51 => grd (ns_kd b51 = 10) <| drf (σ.2.2 a0 3) fun b52 => grd (ns_kd b52 = 1) <| cl2 (g_TurnPlan_cellOf σ (σ.1 b52 0) x3) fun r54 σ53 => drf (σ53.2.2 a0 3) fun b55 => grd (ns_kd b55 = 1) <| cl2 (g_TurnPlan_hasSeen σ53 a0 (σ53.1 b55 0) x3) fun r57 σ56 => ite2 (r57 = 0) (grd (ns_in r54 (ns_ln b51)) <| bnd (ns_pI σ56 b51 (ns_ix r54) (1000 : Int32)) fun σ60 => bnd (x3 + 1) fun z61 => (g_TurnPlan_make_39 f) σ60 a0 z61) (grd (ns_in r54 (ns_ln b51)) <| bnd (ns_pI σ56 b51 (ns_ix r54) (0 : Int32)) fun σ63 => bnd (x3 + 1) fun z64 => (g_TurnPlan_make_39 f) σ63 a0 z64))
def g_TurnPlan_make (σ : ns_St) (a0 : Nat) (a1 : Nat) (a2 : Nat) : Option (Int32 × ns_St) := grd (ns_kd a0 = 6) <| grd (ns_kd a1 = 2) <| grd (ns_kd a2 = 1) <| bnd (ns_pR σ a0 3 (some a2)) fun σ65 => bnd (ns_pI σ65 a0 4 (σ65.1 a1 2)) fun σ66 => cl2 (g_Mule_cappedCount σ66 a1) fun r68 σ67 => bnd (ns_pI σ67 a0 5 r68) fun σ69 => drf (σ69.2.2 a0 3) fun b70 => grd (ns_kd b70 = 1) <| drf (σ69.2.2 a0 2) fun b71 => grd (ns_kd b71 = 2) <| drf (σ69.2.2 a0 1) fun b72 => grd (ns_kd b72 = 10) <| cl2 (g_N_tellNumbers σ69 a1 b70 b71 b72) fun r74 σ73 => g_TurnPlan_make_39 ns_F σ73 a0 (0 : Int32)
theorem t_TurnPlan_make_99 (G : ns_G) (l : Launch) {p : Program} {e : Env} {s : State} {m : MethodId} {args : Array Value} {below : List Frame} {meth : Method} {c : Code} (C : ns_Cx G p s m args meth c prog_8_method_2_code "NinthStep$TurnPlan" 4) (hr : meth.sig.returnType = (some .int)) {r : Int32} {σ' : ns_St}  : ∀ (f : Nat) (σ : ns_St) (a0 : Nat) (x3 : Int32) (hk_a0 : ns_kd a0 = 6), g_TurnPlan_make_99 f σ a0 x3 = some (r, σ') → VV G p l e { frames := 4, cells := 0, slots := 0, locals := 95 } s m args below meth c 4 0 0 (MQ below (ns_Qc G (some (.int r)) ns_N σ') args s 0 0 (ns_A G)) ns_N σ 99 [(0, .ref (G.1 + a0)), (3, .int x3)] [] := by
  intro f
  induction f with
  | zero =>
    intro σ a0 x3 hk_a0 hf
    cases hf
  | succ f ih =>
    intro σ a0 x3 hk_a0 hf
    rw [g_TurnPlan_make_99] at hf
    refine v_iload_n C 3 1 rfl 100 rfl (by decide +kernel) ?_
    refine v_aload_n C 0 0 rfl 101 rfl (by decide +kernel) ?_
    refine v_getI C 6 4 rfl nin_6 (ns_kd_lt hk_a0 (by decide)) hk_a0 (by decide) (by decide) rfl 33 tw_197 rfl 104 rfl (by decide +kernel) ?_
    refine v_icmp_lt C 118 107 rfl (by decide +kernel) (fun h38 => ?_) (fun h38 => ?_)
    · have hf := ite2_t hf h38
      refine v_aload_n C 0 0 rfl 119 rfl (by decide +kernel) ?_
      obtain ⟨b39, hb39, hf⟩ := drf_e hf
      obtain ⟨hk_b39, hf⟩ := grd_e hf
      refine v_getR C 6 0 hb39 rfl nin_6 (ns_kd_lt hk_a0 (by decide)) hk_a0 (by decide) (by decide) rfl 11 tw_193 rfl 122 rfl (by decide +kernel) ?_
      refine v_aload_n C 0 0 rfl 123 rfl (by decide +kernel) ?_
      refine v_getI C 6 4 rfl nin_6 (ns_kd_lt hk_a0 (by decide)) hk_a0 (by decide) (by decide) rfl 33 tw_197 rfl 126 rfl (by decide +kernel) ?_
      refine v_aload_n C 0 0 rfl 127 rfl (by decide +kernel) ?_
      refine v_getI C 6 5 rfl nin_6 (ns_kd_lt hk_a0 (by decide)) hk_a0 (by decide) (by decide) rfl 40 tw_198 rfl 130 rfl (by decide +kernel) ?_
      obtain ⟨r41, σ40, hcr41, hf⟩ := cl2_e hf
      refine v_cS C [.int (σ.1 a0 4), .int (σ.1 a0 5)] [.ref (G.1 + b39)] (c_TurnPlan_cellOf G l σ (σ.1 a0 4) (σ.1 a0 5) hcr41) 52 2 tw_721 tw_719 tw_720 tw_6 hd_TurnPlan_cellOf rfl ⟨(Nat.le_of_ble_eq_true rfl), (Nat.le_of_ble_eq_true rfl)⟩ ⟨(Nat.le_of_ble_eq_true rfl), (Nat.le_of_ble_eq_true rfl)⟩ (Nat.le_of_ble_eq_true rfl) rfl 133 rfl (by decide +kernel) [.int r41, .ref (G.1 + b39)] rfl ?_
      obtain ⟨hi42, hf⟩ := grd_e hf
      refine v_iald C (ns_kd_lt hk_b39 (by decide)) hk_b39 hi42 134 rfl (by decide +kernel) ?_
      obtain ⟨z43, hz43, hf⟩ := bnd_e hf
      refine v_nmI hz43 ?_
      refine v_istore_n C 3 [(3, .int z43), (0, .ref (G.1 + a0))] (by decide) rfl 135 rfl (by decide +kernel) ?_
      refine v_iload_n C 3 0 rfl 136 rfl (by decide +kernel) ?_
      refine v_sipush C (1000) (1000) (by decide) 139 rfl (by decide +kernel) ?_
      refine v_icmp_lt C 146 142 rfl (by decide +kernel) (fun h44 => ?_) (fun h44 => ?_)
      · have hf := ite2_t hf h44
        refine v_iload_n C 3 0 rfl 147 rfl (by decide +kernel) ?_
        obtain ⟨rfl, rfl⟩ := ret_e hf
        exact v_iret C hr (by decide +kernel)
      · have hf := ite2_f hf h44
        refine v_iconst C (-1) (-1) (by decide) 143 rfl (by decide +kernel) ?_
        refine v_goto C 147 (by decide +kernel) ?_
        obtain ⟨rfl, rfl⟩ := ret_e hf
        exact v_iret C hr (by decide +kernel)
    · have hf := ite2_f hf h38
      refine v_aload_n C 0 0 rfl 108 rfl (by decide +kernel) ?_
      refine v_iload_n C 3 1 rfl 109 rfl (by decide +kernel) ?_
      obtain ⟨r46, σ45, hcr46, hf⟩ := cl2_e hf
      refine v_cV C 6 rfl (ns_kd_lt hk_a0 (by decide)) hk_a0 (by decide) [.int x3] [] (c_TurnPlan_fillPlace G l σ a0 x3 hcr46) 60 1 tw_732 tw_729 tw_731 ts_41 tw_6 hd_TurnPlan_fillPlace rfl ⟨(Nat.le_of_ble_eq_true rfl), (Nat.le_of_ble_eq_true rfl)⟩ ⟨(Nat.le_of_ble_eq_true rfl), (Nat.le_of_ble_eq_true rfl)⟩ (Nat.le_of_ble_eq_true rfl) rfl 112 rfl (by decide +kernel) [] rfl ?_
      obtain ⟨z47, hz47, hf⟩ := bnd_e hf
      refine v_iinc C 3 (-1) 1 z47 rfl (by rw [hz47]; rfl) [(3, .int z47), (0, .ref (G.1 + a0))] (by decide) rfl 115 rfl (by decide +kernel) ?_
      refine v_goto C 99 (by decide +kernel) ?_
      refine v_sub [1, 0] rfl ?_
      exact ih σ45 a0 z47 hk_a0 hf
theorem t_TurnPlan_make_39 (G : ns_G) (l : Launch) {p : Program} {e : Env} {s : State} {m : MethodId} {args : Array Value} {below : List Frame} {meth : Method} {c : Code} (C : ns_Cx G p s m args meth c prog_8_method_2_code "NinthStep$TurnPlan" 4) (hr : meth.sig.returnType = (some .int)) {r : Int32} {σ' : ns_St}  : ∀ (f : Nat) (σ : ns_St) (a0 : Nat) (x3 : Int32) (hk_a0 : ns_kd a0 = 6), g_TurnPlan_make_39 f σ a0 x3 = some (r, σ') → VV G p l e { frames := 4, cells := 0, slots := 0, locals := 95 } s m args below meth c 4 0 0 (MQ below (ns_Qc G (some (.int r)) ns_N σ') args s 0 0 (ns_A G)) ns_N σ 39 [(0, .ref (G.1 + a0)), (3, .int x3)] [] := by
  intro f
  induction f with
  | zero =>
    intro σ a0 x3 hk_a0 hf
    cases hf
  | succ f ih =>
    intro σ a0 x3 hk_a0 hf
    rw [g_TurnPlan_make_39] at hf
    refine v_iload_n C 3 1 rfl 40 rfl (by decide +kernel) ?_
    refine v_bipush C (64) (64) (by decide) 42 rfl (by decide +kernel) ?_
    refine v_icmp_ge C 89 45 rfl (by decide +kernel) (fun h48 => ?_) (fun h48 => ?_)
    · have hf := ite2_t hf h48
      refine v_aload_n C 0 0 rfl 90 rfl (by decide +kernel) ?_
      obtain ⟨b49, hb49, hf⟩ := drf_e hf
      obtain ⟨hk_b49, hf⟩ := grd_e hf
      refine v_getR C 6 3 hb49 rfl nin_6 (ns_kd_lt hk_a0 (by decide)) hk_a0 (by decide) (by decide) rfl 25 tw_196 rfl 93 rfl (by decide +kernel) ?_
      refine v_getIN C 1 0 rfl nin_1 (ns_kd_lt hk_b49 (by decide)) hk_b49 (by decide) (by decide) rfl 47 tw_40 rfl 96 rfl (by decide +kernel) ?_
      refine v_iconst C (1) (1) (by decide) 97 rfl (by decide +kernel) ?_
      refine v_isub C 98 rfl (by decide +kernel) ?_
      obtain ⟨z50, hz50, hf⟩ := bnd_e hf
      refine v_nmI hz50 ?_
      refine v_istore_n C 3 [(3, .int z50), (0, .ref (G.1 + a0))] (by decide) rfl 99 rfl (by decide +kernel) ?_
      refine v_sub [1, 0] rfl ?_
      exact t_TurnPlan_make_99 G l C hr  ns_F σ a0 z50 hk_a0 hf
    · have hf := ite2_f hf h48
      refine v_aload_n C 0 0 rfl 46 rfl (by decide +kernel) ?_
      obtain ⟨b51, hb51, hf⟩ := drf_e hf
      obtain ⟨hk_b51, hf⟩ := grd_e hf
      refine v_getR C 6 0 hb51 rfl nin_6 (ns_kd_lt hk_a0 (by decide)) hk_a0 (by decide) (by decide) rfl 11 tw_193 rfl 49 rfl (by decide +kernel) ?_
      refine v_aload_n C 0 0 rfl 50 rfl (by decide +kernel) ?_
      obtain ⟨b52, hb52, hf⟩ := drf_e hf
      obtain ⟨hk_b52, hf⟩ := grd_e hf
      refine v_getR C 6 3 hb52 rfl nin_6 (ns_kd_lt hk_a0 (by decide)) hk_a0 (by decide) (by decide) rfl 25 tw_196 rfl 53 rfl (by decide +kernel) ?_
      refine v_getIN C 1 0 rfl nin_1 (ns_kd_lt hk_b52 (by decide)) hk_b52 (by decide) (by decide) rfl 47 tw_40 rfl 56 rfl (by decide +kernel) ?_
      refine v_iload_n C 3 1 rfl 57 rfl (by decide +kernel) ?_
      obtain ⟨r54, σ53, hcr54, hf⟩ := cl2_e hf
      refine v_cS C [.int (σ.1 b52 0), .int x3] [.ref (G.1 + b51)] (c_TurnPlan_cellOf G l σ (σ.1 b52 0) x3 hcr54) 52 2 tw_721 tw_719 tw_720 tw_6 hd_TurnPlan_cellOf rfl ⟨(Nat.le_of_ble_eq_true rfl), (Nat.le_of_ble_eq_true rfl)⟩ ⟨(Nat.le_of_ble_eq_true rfl), (Nat.le_of_ble_eq_true rfl)⟩ (Nat.le_of_ble_eq_true rfl) rfl 60 rfl (by decide +kernel) [.int r54, .ref (G.1 + b51)] rfl ?_
      refine v_aload_n C 0 0 rfl 61 rfl (by decide +kernel) ?_
      refine v_aload_n C 0 0 rfl 62 rfl (by decide +kernel) ?_
      obtain ⟨b55, hb55, hf⟩ := drf_e hf
      obtain ⟨hk_b55, hf⟩ := grd_e hf
      refine v_getR C 6 3 hb55 rfl nin_6 (ns_kd_lt hk_a0 (by decide)) hk_a0 (by decide) (by decide) rfl 25 tw_196 rfl 65 rfl (by decide +kernel) ?_
      refine v_getIN C 1 0 rfl nin_1 (ns_kd_lt hk_b55 (by decide)) hk_b55 (by decide) (by decide) rfl 47 tw_40 rfl 68 rfl (by decide +kernel) ?_
      refine v_iload_n C 3 1 rfl 69 rfl (by decide +kernel) ?_
      obtain ⟨r57, σ56, hcr57, hf⟩ := cl2_e hf
      refine v_cV C 6 rfl (ns_kd_lt hk_a0 (by decide)) hk_a0 (by decide) [.int (σ53.1 b55 0), .int x3] [.int r54, .ref (G.1 + b51)] (c_TurnPlan_hasSeen G l σ53 a0 (σ53.1 b55 0) x3 hcr57) 56 2 tw_727 tw_724 tw_726 ts_40 tw_6 hd_TurnPlan_hasSeen rfl ⟨(Nat.le_of_ble_eq_true rfl), (Nat.le_of_ble_eq_true rfl)⟩ ⟨(Nat.le_of_ble_eq_true rfl), (Nat.le_of_ble_eq_true rfl)⟩ (Nat.le_of_ble_eq_true rfl) rfl 72 rfl (by decide +kernel) [.int r57, .int r54, .ref (G.1 + b51)] rfl ?_
      refine v_if_eq C 79 75 rfl (by decide +kernel) (fun h58 => ?_) (fun h58 => ?_)
      · have hf := ite2_t hf h58
        refine v_sipush C (1000) (1000) (by decide) 82 rfl (by decide +kernel) ?_
        obtain ⟨hi59, hf⟩ := grd_e hf
        obtain ⟨σ60, hσ60, hf⟩ := bnd_e hf
        refine v_iast C hσ60 (ns_kd_lt hk_b51 (by decide)) hk_b51 hi59 83 rfl (by decide +kernel) ?_
        obtain ⟨z61, hz61, hf⟩ := bnd_e hf
        refine v_iinc C 3 (1) 1 z61 rfl (by rw [hz61]; rfl) [(3, .int z61), (0, .ref (G.1 + a0))] (by decide) rfl 86 rfl (by decide +kernel) ?_
        refine v_goto C 39 (by decide +kernel) ?_
        refine v_sub [1, 0] rfl ?_
        exact ih σ60 a0 z61 hk_a0 hf
      · have hf := ite2_f hf h58
        refine v_iconst C (0) (0) (by decide) 76 rfl (by decide +kernel) ?_
        refine v_goto C 82 (by decide +kernel) ?_
        obtain ⟨hi62, hf⟩ := grd_e hf
        obtain ⟨σ63, hσ63, hf⟩ := bnd_e hf
        refine v_iast C hσ63 (ns_kd_lt hk_b51 (by decide)) hk_b51 hi62 83 rfl (by decide +kernel) ?_
        obtain ⟨z64, hz64, hf⟩ := bnd_e hf
        refine v_iinc C 3 (1) 1 z64 rfl (by rw [hz64]; rfl) [(3, .int z64), (0, .ref (G.1 + a0))] (by decide) rfl 86 rfl (by decide +kernel) ?_
        refine v_goto C 39 (by decide +kernel) ?_
        refine v_sub [1, 0] rfl ?_
        exact ih σ63 a0 z64 hk_a0 hf
theorem c_TurnPlan_make (G : ns_G) (l : Launch) (σ : ns_St) (a0 : Nat) (a1 : Nat) (a2 : Nat) {r : Int32} {σ' : ns_St} (hf : g_TurnPlan_make σ a0 a1 a2 = some (r, σ')) : ns_ok G l ⟨"NinthStep$TurnPlan", "make", "(LNinthStep$Mule;LNinthStep$Ground;)I"⟩ prog_8_method_2_code 4 (some .int) 4 95 0 0 [.ref (G.1 + a0), .ref (G.1 + a1), .ref (G.1 + a2)] ns_N σ (some (.int r)) ns_N σ' := by
  refine v_open (by decide) (Nat.le_of_ble_eq_true rfl) rfl ?_
  intro p e s m below meth c C hr _
  have C : ns_Cx G p s m _ meth c prog_8_method_2_code "NinthStep$TurnPlan" 4 := C
  unfold g_TurnPlan_make at hf
  obtain ⟨hk_a0, hf⟩ := grd_e hf
  obtain ⟨hk_a1, hf⟩ := grd_e hf
  obtain ⟨hk_a2, hf⟩ := grd_e hf
  refine v_aload_n C 0 0 rfl 1 rfl (by decide +kernel) ?_
  refine v_aload_n C 2 2 rfl 2 rfl (by decide +kernel) ?_
  obtain ⟨σ65, hσ65, hf⟩ := bnd_e hf
  refine v_putR C 6 3 hσ65 rfl nin_6 ny_6 nty_6 nnm_6 (ns_kd_lt hk_a0 (by decide)) hk_a0 (by decide) (by decide) rfl rfl rfl rfl 25 tw_196 rfl 5 rfl (by decide +kernel) ?_
  refine v_aload_n C 0 0 rfl 6 rfl (by decide +kernel) ?_
  refine v_aload_n C 1 1 rfl 7 rfl (by decide +kernel) ?_
  refine v_getIN C 2 2 rfl nin_2 (ns_kd_lt hk_a1 (by decide)) hk_a1 (by decide) (by decide) rfl 29 tw_87 rfl 10 rfl (by decide +kernel) ?_
  obtain ⟨σ66, hσ66, hf⟩ := bnd_e hf
  refine v_putI C 6 4 hσ66 rfl nin_6 ny_6 nty_6 nnm_6 (ns_kd_lt hk_a0 (by decide)) hk_a0 (by decide) (by decide) rfl rfl rfl rfl 33 tw_197 rfl 13 rfl (by decide +kernel) ?_
  refine v_aload_n C 0 0 rfl 14 rfl (by decide +kernel) ?_
  refine v_aload_n C 1 1 rfl 15 rfl (by decide +kernel) ?_
  obtain ⟨r68, σ67, hcr68, hf⟩ := cl2_e hf
  refine v_cVN C 2 rfl (ns_kd_lt hk_a1 (by decide)) hk_a1 (by decide) [] [.ref (G.1 + a0)] (c_Mule_cappedCount G l σ66 a1 hcr68) 36 0 tw_715 tw_712 tw_714 ts_39 tw_4 hd_Mule_cappedCount rfl ⟨(Nat.le_of_ble_eq_true rfl), (Nat.le_of_ble_eq_true rfl)⟩ ⟨(Nat.le_of_ble_eq_true rfl), (Nat.le_of_ble_eq_true rfl)⟩ (Nat.le_of_ble_eq_true rfl) rfl 18 rfl (by decide +kernel) [.int r68, .ref (G.1 + a0)] rfl ?_
  obtain ⟨σ69, hσ69, hf⟩ := bnd_e hf
  refine v_putI C 6 5 hσ69 rfl nin_6 ny_6 nty_6 nnm_6 (ns_kd_lt hk_a0 (by decide)) hk_a0 (by decide) (by decide) rfl rfl rfl rfl 40 tw_198 rfl 21 rfl (by decide +kernel) ?_
  refine v_aload_n C 1 1 rfl 22 rfl (by decide +kernel) ?_
  refine v_aload_n C 0 0 rfl 23 rfl (by decide +kernel) ?_
  obtain ⟨b70, hb70, hf⟩ := drf_e hf
  obtain ⟨hk_b70, hf⟩ := grd_e hf
  refine v_getR C 6 3 hb70 rfl nin_6 (ns_kd_lt hk_a0 (by decide)) hk_a0 (by decide) (by decide) rfl 25 tw_196 rfl 26 rfl (by decide +kernel) ?_
  refine v_aload_n C 0 0 rfl 27 rfl (by decide +kernel) ?_
  obtain ⟨b71, hb71, hf⟩ := drf_e hf
  obtain ⟨hk_b71, hf⟩ := grd_e hf
  refine v_getR C 6 2 hb71 rfl nin_6 (ns_kd_lt hk_a0 (by decide)) hk_a0 (by decide) (by decide) rfl 21 tw_195 rfl 30 rfl (by decide +kernel) ?_
  refine v_aload_n C 0 0 rfl 31 rfl (by decide +kernel) ?_
  obtain ⟨b72, hb72, hf⟩ := drf_e hf
  obtain ⟨hk_b72, hf⟩ := grd_e hf
  refine v_getR C 6 1 hb72 rfl nin_6 (ns_kd_lt hk_a0 (by decide)) hk_a0 (by decide) (by decide) rfl 15 tw_194 rfl 34 rfl (by decide +kernel) ?_
  obtain ⟨r74, σ73, hcr74, hf⟩ := cl2_e hf
  refine v_cSN C [.ref (G.1 + a1), .ref (G.1 + b70), .ref (G.1 + b71), .ref (G.1 + b72)] [] (c_N_tellNumbers G l σ69 a1 b70 b71 b72 hcr74) 43 4 tw_718 tw_716 tw_717 tw_1 hd_N_tellNumbers rfl ⟨(Nat.le_of_ble_eq_true rfl), (Nat.le_of_ble_eq_true rfl)⟩ ⟨(Nat.le_of_ble_eq_true rfl), (Nat.le_of_ble_eq_true rfl)⟩ (Nat.le_of_ble_eq_true rfl) rfl 37 rfl (by decide +kernel) [] rfl ?_
  refine v_iconst C (0) (0) (by decide) 38 rfl (by decide +kernel) ?_
  refine v_istore_n C 3 [(3, .int (0 : Int32)), (0, .ref (G.1 + a0)), (1, .ref (G.1 + a1)), (2, .ref (G.1 + a2))] (by decide) rfl 39 rfl (by decide +kernel) ?_
  refine v_sub [1, 0] rfl ?_
  exact t_TurnPlan_make_39 G l C hr  ns_F σ73 a0 (0 : Int32) hk_a0 hf
theorem hd_TurnPlan_make : (⟨"NinthStep$TurnPlan", "make", "(LNinthStep$Mule;LNinthStep$Ground;)I"⟩ : MethodName).cls = "NinthStep$TurnPlan" ∧ (⟨"NinthStep$TurnPlan", "make", "(LNinthStep$Mule;LNinthStep$Ground;)I"⟩ : MethodName).cls ≠ "java/lang/invoke/MethodHandle" ∧ (⟨"NinthStep$TurnPlan", "make", "(LNinthStep$Mule;LNinthStep$Ground;)I"⟩ : MethodName).cls ≠ "java/lang/invoke/VarHandle" ∧ (parseMethodDescriptor (⟨"NinthStep$TurnPlan", "make", "(LNinthStep$Mule;LNinthStep$Ground;)I"⟩ : MethodName).desc).map (fun d => d.parameters.length) = some 2 := by decide +kernel
def g_TurnPlan_fewestFirst_14  : Nat → ns_St → Nat → Int32 → Int32 → Int32 → Int32 → Option (Int32 × ns_St)
  | 0, _, _, _, _, _, _ => none
  | f + 1, σ, a0, x1, x2, x3, x4 => ite2 ((3 : Int32) ≤ x4) (some ((3 : Int32), σ)) (cl2 (g_TurnPlan_needWith σ a0 x1 x2 x4) fun r13 σ12 => ite2 (r13 = x3) (some (x4, σ12)) (bnd (x4 + 1) fun z15 => (g_TurnPlan_fewestFirst_14 f) σ12 a0 x1 x2 x3 z15))
def g_TurnPlan_fewestFirst (σ : ns_St) (a0 : Nat) (x1 : Int32) (x2 : Int32) : Option (Int32 × ns_St) := grd (ns_kd a0 = 6) <| drf (σ.2.2 a0 0) fun b16 => grd (ns_kd b16 = 10) <| cl2 (g_TurnPlan_cellOf σ x1 x2) fun r18 σ17 => grd (ns_in r18 (ns_ln b16)) <| bnd (σ17.1 b16 (ns_ix r18)) fun z20 => g_TurnPlan_fewestFirst_14 ns_F σ17 a0 x1 x2 z20 (0 : Int32)
theorem t_TurnPlan_fewestFirst_14 (G : ns_G) (l : Launch) {p : Program} {e : Env} {s : State} {m : MethodId} {args : Array Value} {below : List Frame} {meth : Method} {c : Code} (C : ns_Cx G p s m args meth c prog_8_method_5_code "NinthStep$TurnPlan" 5) (hr : meth.sig.returnType = (some .int)) {r : Int32} {σ' : ns_St}  : ∀ (f : Nat) (σ : ns_St) (a0 : Nat) (x1 : Int32) (x2 : Int32) (x3 : Int32) (x4 : Int32) (hk_a0 : ns_kd a0 = 6), g_TurnPlan_fewestFirst_14 f σ a0 x1 x2 x3 x4 = some (r, σ') → VV G p l e { frames := 3, cells := 0, slots := 0, locals := 70 } s m args below meth c 5 0 0 (MQ below (ns_Qc G (some (.int r)) ns_N σ') args s 0 0 (ns_A G)) ns_N σ 14 [(0, .ref (G.1 + a0)), (1, .int x1), (2, .int x2), (3, .int x3), (4, .int x4)] [] := by
  intro f
  induction f with
  | zero =>
    intro σ a0 x1 x2 x3 x4 hk_a0 hf
    cases hf
  | succ f ih =>
    intro σ a0 x1 x2 x3 x4 hk_a0 hf
    rw [g_TurnPlan_fewestFirst_14] at hf
    refine v_iload C 4 4 rfl 16 rfl (by decide +kernel) ?_
    refine v_iconst C (3) (3) (by decide) 17 rfl (by decide +kernel) ?_
    refine v_icmp_ge C 41 20 rfl (by decide +kernel) (fun h11 => ?_) (fun h11 => ?_)
    · have hf := ite2_t hf h11
      refine v_iconst C (3) (3) (by decide) 42 rfl (by decide +kernel) ?_
      obtain ⟨rfl, rfl⟩ := ret_e hf
      exact v_iret C hr (by decide +kernel)
    · have hf := ite2_f hf h11
      refine v_aload_n C 0 0 rfl 21 rfl (by decide +kernel) ?_
      refine v_iload_n C 1 1 rfl 22 rfl (by decide +kernel) ?_
      refine v_iload_n C 2 2 rfl 23 rfl (by decide +kernel) ?_
      refine v_iload C 4 4 rfl 25 rfl (by decide +kernel) ?_
      obtain ⟨r13, σ12, hcr13, hf⟩ := cl2_e hf
      refine v_cV C 6 rfl (ns_kd_lt hk_a0 (by decide)) hk_a0 (by decide) [.int x1, .int x2, .int x4] [] (c_TurnPlan_needWith G l σ a0 x1 x2 x4 hcr13) 67 3 tw_736 tw_733 tw_735 ts_42 tw_6 hd_TurnPlan_needWith rfl ⟨(Nat.le_of_ble_eq_true rfl), (Nat.le_of_ble_eq_true rfl)⟩ ⟨(Nat.le_of_ble_eq_true rfl), (Nat.le_of_ble_eq_true rfl)⟩ (Nat.le_of_ble_eq_true rfl) rfl 28 rfl (by decide +kernel) [.int r13] rfl ?_
      refine v_iload_n C 3 3 rfl 29 rfl (by decide +kernel) ?_
      refine v_icmp_ne C 35 32 rfl (by decide +kernel) (fun h14 => ?_) (fun h14 => ?_)
      · have hf := ite2_f hf h14
        obtain ⟨z15, hz15, hf⟩ := bnd_e hf
        refine v_iinc C 4 (1) 4 z15 rfl (by rw [hz15]; rfl) [(4, .int z15), (0, .ref (G.1 + a0)), (1, .int x1), (2, .int x2), (3, .int x3)] (by decide) rfl 38 rfl (by decide +kernel) ?_
        refine v_goto C 14 (by decide +kernel) ?_
        refine v_sub [1, 2, 3, 4, 0] rfl ?_
        exact ih σ12 a0 x1 x2 x3 z15 hk_a0 hf
      · have hf := ite2_t hf h14
        refine v_iload C 4 4 rfl 34 rfl (by decide +kernel) ?_
        obtain ⟨rfl, rfl⟩ := ret_e hf
        exact v_iret C hr (by decide +kernel)
theorem c_TurnPlan_fewestFirst (G : ns_G) (l : Launch) (σ : ns_St) (a0 : Nat) (x1 : Int32) (x2 : Int32) {r : Int32} {σ' : ns_St} (hf : g_TurnPlan_fewestFirst σ a0 x1 x2 = some (r, σ')) : ns_ok G l ⟨"NinthStep$TurnPlan", "fewestFirst", "(II)I"⟩ prog_8_method_5_code 5 (some .int) 3 70 0 0 [.ref (G.1 + a0), .int x1, .int x2] ns_N σ (some (.int r)) ns_N σ' := by
  refine v_open (by decide) (Nat.le_of_ble_eq_true rfl) rfl ?_
  intro p e s m below meth c C hr _
  have C : ns_Cx G p s m _ meth c prog_8_method_5_code "NinthStep$TurnPlan" 5 := C
  unfold g_TurnPlan_fewestFirst at hf
  obtain ⟨hk_a0, hf⟩ := grd_e hf
  refine v_aload_n C 0 0 rfl 1 rfl (by decide +kernel) ?_
  obtain ⟨b16, hb16, hf⟩ := drf_e hf
  obtain ⟨hk_b16, hf⟩ := grd_e hf
  refine v_getR C 6 0 hb16 rfl nin_6 (ns_kd_lt hk_a0 (by decide)) hk_a0 (by decide) (by decide) rfl 11 tw_193 rfl 4 rfl (by decide +kernel) ?_
  refine v_iload_n C 1 1 rfl 5 rfl (by decide +kernel) ?_
  refine v_iload_n C 2 2 rfl 6 rfl (by decide +kernel) ?_
  obtain ⟨r18, σ17, hcr18, hf⟩ := cl2_e hf
  refine v_cS C [.int x1, .int x2] [.ref (G.1 + b16)] (c_TurnPlan_cellOf G l σ x1 x2 hcr18) 52 2 tw_721 tw_719 tw_720 tw_6 hd_TurnPlan_cellOf rfl ⟨(Nat.le_of_ble_eq_true rfl), (Nat.le_of_ble_eq_true rfl)⟩ ⟨(Nat.le_of_ble_eq_true rfl), (Nat.le_of_ble_eq_true rfl)⟩ (Nat.le_of_ble_eq_true rfl) rfl 9 rfl (by decide +kernel) [.int r18, .ref (G.1 + b16)] rfl ?_
  obtain ⟨hi19, hf⟩ := grd_e hf
  refine v_iald C (ns_kd_lt hk_b16 (by decide)) hk_b16 hi19 10 rfl (by decide +kernel) ?_
  obtain ⟨z20, hz20, hf⟩ := bnd_e hf
  refine v_nmI hz20 ?_
  refine v_istore_n C 3 [(3, .int z20), (0, .ref (G.1 + a0)), (1, .int x1), (2, .int x2)] (by decide) rfl 11 rfl (by decide +kernel) ?_
  refine v_iconst C (0) (0) (by decide) 12 rfl (by decide +kernel) ?_
  refine v_istore C 4 [(4, .int (0 : Int32)), (3, .int z20), (0, .ref (G.1 + a0)), (1, .int x1), (2, .int x2)] (by decide) rfl 14 rfl (by decide +kernel) ?_
  refine v_sub [2, 3, 4, 1, 0] rfl ?_
  exact t_TurnPlan_fewestFirst_14 G l C hr  ns_F σ17 a0 x1 x2 z20 (0 : Int32) hk_a0 hf
theorem hd_TurnPlan_fewestFirst : (⟨"NinthStep$TurnPlan", "fewestFirst", "(II)I"⟩ : MethodName).cls = "NinthStep$TurnPlan" ∧ (⟨"NinthStep$TurnPlan", "fewestFirst", "(II)I"⟩ : MethodName).cls ≠ "java/lang/invoke/MethodHandle" ∧ (⟨"NinthStep$TurnPlan", "fewestFirst", "(II)I"⟩ : MethodName).cls ≠ "java/lang/invoke/VarHandle" ∧ (parseMethodDescriptor (⟨"NinthStep$TurnPlan", "fewestFirst", "(II)I"⟩ : MethodName).desc).map (fun d => d.parameters.length) = some 2 := by decide +kernel
def g_TurnPlan_madeAt_62  (σ : ns_St) (a0 : Nat) (x1 : Int32) (x2 : Int32) : Option (Int32 × ns_St) := ite2 (x1 < (σ.1 a0 4)) (some ((0 : Int32), σ)) (drf (σ.2.2 a0 3) fun b18 => grd (ns_kd b18 = 1) <| ite2 (x1 < (σ.1 b18 0)) (some (x2, σ)) (some ((0 : Int32), σ)))
def g_TurnPlan_madeAt_13  : Nat → ns_St → Nat → Int32 → Int32 → Int32 → Int32 → Option (Int32 × ns_St)
  | 0, _, _, _, _, _, _ => none
  | f + 1, σ, a0, x1, x2, x3, x4 => ite2 (x1 < x4) (g_TurnPlan_madeAt_62 σ a0 x1 x2) (drf (σ.2.2 a0 3) fun b21 => grd (ns_kd b21 = 1) <| ite2 ((σ.1 b21 0) ≤ x4) (g_TurnPlan_madeAt_62 σ a0 x1 x2) (cl2 (g_TurnPlan_fewestFirst σ a0 x4 x3) fun r24 σ23 => cl2 (g_TurnPlan_needWith σ23 a0 x4 x3 r24) fun r26 σ25 => drf (σ25.2.2 a0 2) fun b27 => grd (ns_kd b27 = 2) <| cl2 (g_Mule_cappedCount σ25 b27) fun r29 σ28 => bnd (x4 + 1) fun z30 => (g_TurnPlan_madeAt_13 f) σ28 a0 x1 r24 r29 z30))
def g_TurnPlan_madeAt (σ : ns_St) (a0 : Nat) (x1 : Int32) : Option (Int32 × ns_St) := grd (ns_kd a0 = 6) <| bnd (σ.1 a0 5) fun z31 => bnd (σ.1 a0 4) fun z32 => g_TurnPlan_madeAt_13 ns_F σ a0 x1 (0 : Int32) z31 z32
theorem t_TurnPlan_madeAt_62 (G : ns_G) (l : Launch) {p : Program} {e : Env} {s : State} {m : MethodId} {args : Array Value} {below : List Frame} {meth : Method} {c : Code} (C : ns_Cx G p s m args meth c prog_8_method_3_code "NinthStep$TurnPlan" 5) (hr : meth.sig.returnType = (some .int)) {r : Int32} {σ' : ns_St}  (σ : ns_St) (a0 : Nat) (x1 : Int32) (x2 : Int32) (hk_a0 : ns_kd a0 = 6) (hf : g_TurnPlan_madeAt_62 σ a0 x1 x2 = some (r, σ')) : VV G p l e { frames := 4, cells := 0, slots := 0, locals := 94 } s m args below meth c 5 0 0 (MQ below (ns_Qc G (some (.int r)) ns_N σ') args s 0 0 (ns_A G)) ns_N σ 62 [(0, .ref (G.1 + a0)), (1, .int x1), (2, .int x2)] [] := by
  unfold g_TurnPlan_madeAt_62 at hf
  refine v_iload_n C 1 1 rfl 63 rfl (by decide +kernel) ?_
  refine v_aload_n C 0 0 rfl 64 rfl (by decide +kernel) ?_
  refine v_getI C 6 4 rfl nin_6 (ns_kd_lt hk_a0 (by decide)) hk_a0 (by decide) (by decide) rfl 33 tw_197 rfl 67 rfl (by decide +kernel) ?_
  refine v_icmp_lt C 81 70 rfl (by decide +kernel) (fun h17 => ?_) (fun h17 => ?_)
  · have hf := ite2_t hf h17
    refine v_iconst C (0) (0) (by decide) 82 rfl (by decide +kernel) ?_
    refine v_goto C 86 (by decide +kernel) ?_
    obtain ⟨rfl, rfl⟩ := ret_e hf
    exact v_iret C hr (by decide +kernel)
  · have hf := ite2_f hf h17
    refine v_iload_n C 1 1 rfl 71 rfl (by decide +kernel) ?_
    refine v_aload_n C 0 0 rfl 72 rfl (by decide +kernel) ?_
    obtain ⟨b18, hb18, hf⟩ := drf_e hf
    obtain ⟨hk_b18, hf⟩ := grd_e hf
    refine v_getR C 6 3 hb18 rfl nin_6 (ns_kd_lt hk_a0 (by decide)) hk_a0 (by decide) (by decide) rfl 25 tw_196 rfl 75 rfl (by decide +kernel) ?_
    refine v_getIN C 1 0 rfl nin_1 (ns_kd_lt hk_b18 (by decide)) hk_b18 (by decide) (by decide) rfl 47 tw_40 rfl 78 rfl (by decide +kernel) ?_
    refine v_icmp_lt C 85 81 rfl (by decide +kernel) (fun h19 => ?_) (fun h19 => ?_)
    · have hf := ite2_t hf h19
      refine v_iload_n C 2 2 rfl 86 rfl (by decide +kernel) ?_
      obtain ⟨rfl, rfl⟩ := ret_e hf
      exact v_iret C hr (by decide +kernel)
    · have hf := ite2_f hf h19
      refine v_iconst C (0) (0) (by decide) 82 rfl (by decide +kernel) ?_
      refine v_goto C 86 (by decide +kernel) ?_
      obtain ⟨rfl, rfl⟩ := ret_e hf
      exact v_iret C hr (by decide +kernel)
theorem t_TurnPlan_madeAt_13 (G : ns_G) (l : Launch) {p : Program} {e : Env} {s : State} {m : MethodId} {args : Array Value} {below : List Frame} {meth : Method} {c : Code} (C : ns_Cx G p s m args meth c prog_8_method_3_code "NinthStep$TurnPlan" 5) (hr : meth.sig.returnType = (some .int)) {r : Int32} {σ' : ns_St}  : ∀ (f : Nat) (σ : ns_St) (a0 : Nat) (x1 : Int32) (x2 : Int32) (x3 : Int32) (x4 : Int32) (hk_a0 : ns_kd a0 = 6), g_TurnPlan_madeAt_13 f σ a0 x1 x2 x3 x4 = some (r, σ') → VV G p l e { frames := 4, cells := 0, slots := 0, locals := 94 } s m args below meth c 5 0 0 (MQ below (ns_Qc G (some (.int r)) ns_N σ') args s 0 0 (ns_A G)) ns_N σ 13 [(0, .ref (G.1 + a0)), (1, .int x1), (2, .int x2), (3, .int x3), (4, .int x4)] [] := by
  intro f
  induction f with
  | zero =>
    intro σ a0 x1 x2 x3 x4 hk_a0 hf
    cases hf
  | succ f ih =>
    intro σ a0 x1 x2 x3 x4 hk_a0 hf
    rw [g_TurnPlan_madeAt_13] at hf
    refine v_iload C 4 4 rfl 15 rfl (by decide +kernel) ?_
    refine v_iload_n C 1 1 rfl 16 rfl (by decide +kernel) ?_
    refine v_icmp_gt C 62 19 rfl (by decide +kernel) (fun h20 => ?_) (fun h20 => ?_)
    · have hf := ite2_t hf h20
      refine v_sub [0, 1, 2] rfl ?_
      exact t_TurnPlan_madeAt_62 G l C hr  σ a0 x1 x2 hk_a0 hf
    · have hf := ite2_f hf h20
      refine v_iload C 4 4 rfl 21 rfl (by decide +kernel) ?_
      refine v_aload_n C 0 0 rfl 22 rfl (by decide +kernel) ?_
      obtain ⟨b21, hb21, hf⟩ := drf_e hf
      obtain ⟨hk_b21, hf⟩ := grd_e hf
      refine v_getR C 6 3 hb21 rfl nin_6 (ns_kd_lt hk_a0 (by decide)) hk_a0 (by decide) (by decide) rfl 25 tw_196 rfl 25 rfl (by decide +kernel) ?_
      refine v_getIN C 1 0 rfl nin_1 (ns_kd_lt hk_b21 (by decide)) hk_b21 (by decide) (by decide) rfl 47 tw_40 rfl 28 rfl (by decide +kernel) ?_
      refine v_icmp_ge C 62 31 rfl (by decide +kernel) (fun h22 => ?_) (fun h22 => ?_)
      · have hf := ite2_t hf h22
        refine v_sub [0, 1, 2] rfl ?_
        exact t_TurnPlan_madeAt_62 G l C hr  σ a0 x1 x2 hk_a0 hf
      · have hf := ite2_f hf h22
        refine v_aload_n C 0 0 rfl 32 rfl (by decide +kernel) ?_
        refine v_iload C 4 4 rfl 34 rfl (by decide +kernel) ?_
        refine v_iload_n C 3 3 rfl 35 rfl (by decide +kernel) ?_
        obtain ⟨r24, σ23, hcr24, hf⟩ := cl2_e hf
        refine v_cV C 6 rfl (ns_kd_lt hk_a0 (by decide)) hk_a0 (by decide) [.int x4, .int x3] [] (c_TurnPlan_fewestFirst G l σ a0 x4 x3 hcr24) 64 2 tw_750 tw_747 tw_749 ts_45 tw_6 hd_TurnPlan_fewestFirst rfl ⟨(Nat.le_of_ble_eq_true rfl), (Nat.le_of_ble_eq_true rfl)⟩ ⟨(Nat.le_of_ble_eq_true rfl), (Nat.le_of_ble_eq_true rfl)⟩ (Nat.le_of_ble_eq_true rfl) rfl 38 rfl (by decide +kernel) [.int r24] rfl ?_
        refine v_istore_n C 2 [(2, .int r24), (0, .ref (G.1 + a0)), (1, .int x1), (3, .int x3), (4, .int x4)] (by decide) rfl 39 rfl (by decide +kernel) ?_
        refine v_aload_n C 0 1 rfl 40 rfl (by decide +kernel) ?_
        refine v_iload C 4 4 rfl 42 rfl (by decide +kernel) ?_
        refine v_iload_n C 3 3 rfl 43 rfl (by decide +kernel) ?_
        refine v_iload_n C 2 0 rfl 44 rfl (by decide +kernel) ?_
        obtain ⟨r26, σ25, hcr26, hf⟩ := cl2_e hf
        refine v_cV C 6 rfl (ns_kd_lt hk_a0 (by decide)) hk_a0 (by decide) [.int x4, .int x3, .int r24] [] (c_TurnPlan_needWith G l σ23 a0 x4 x3 r24 hcr26) 67 3 tw_736 tw_733 tw_735 ts_42 tw_6 hd_TurnPlan_needWith rfl ⟨(Nat.le_of_ble_eq_true rfl), (Nat.le_of_ble_eq_true rfl)⟩ ⟨(Nat.le_of_ble_eq_true rfl), (Nat.le_of_ble_eq_true rfl)⟩ (Nat.le_of_ble_eq_true rfl) rfl 47 rfl (by decide +kernel) [.int r26] rfl ?_
        refine v_pop C rfl 48 rfl (by decide +kernel) ?_
        refine v_aload_n C 0 1 rfl 49 rfl (by decide +kernel) ?_
        obtain ⟨b27, hb27, hf⟩ := drf_e hf
        obtain ⟨hk_b27, hf⟩ := grd_e hf
        refine v_getR C 6 2 hb27 rfl nin_6 (ns_kd_lt hk_a0 (by decide)) hk_a0 (by decide) (by decide) rfl 21 tw_195 rfl 52 rfl (by decide +kernel) ?_
        obtain ⟨r29, σ28, hcr29, hf⟩ := cl2_e hf
        refine v_cVN C 2 rfl (ns_kd_lt hk_b27 (by decide)) hk_b27 (by decide) [] [] (c_Mule_cappedCount G l σ25 b27 hcr29) 36 0 tw_715 tw_712 tw_714 ts_39 tw_4 hd_Mule_cappedCount rfl ⟨(Nat.le_of_ble_eq_true rfl), (Nat.le_of_ble_eq_true rfl)⟩ ⟨(Nat.le_of_ble_eq_true rfl), (Nat.le_of_ble_eq_true rfl)⟩ (Nat.le_of_ble_eq_true rfl) rfl 55 rfl (by decide +kernel) [.int r29] rfl ?_
        refine v_istore_n C 3 [(3, .int r29), (2, .int r24), (0, .ref (G.1 + a0)), (1, .int x1), (4, .int x4)] (by decide) rfl 56 rfl (by decide +kernel) ?_
        obtain ⟨z30, hz30, hf⟩ := bnd_e hf
        refine v_iinc C 4 (1) 4 z30 rfl (by rw [hz30]; rfl) [(4, .int z30), (3, .int r29), (2, .int r24), (0, .ref (G.1 + a0)), (1, .int x1)] (by decide) rfl 59 rfl (by decide +kernel) ?_
        refine v_goto C 13 (by decide +kernel) ?_
        refine v_sub [3, 4, 2, 1, 0] rfl ?_
        exact ih σ28 a0 x1 r24 r29 z30 hk_a0 hf
theorem c_TurnPlan_madeAt (G : ns_G) (l : Launch) (σ : ns_St) (a0 : Nat) (x1 : Int32) {r : Int32} {σ' : ns_St} (hf : g_TurnPlan_madeAt σ a0 x1 = some (r, σ')) : ns_ok G l ⟨"NinthStep$TurnPlan", "madeAt", "(I)I"⟩ prog_8_method_3_code 5 (some .int) 4 94 0 0 [.ref (G.1 + a0), .int x1] ns_N σ (some (.int r)) ns_N σ' := by
  refine v_open (by decide) (Nat.le_of_ble_eq_true rfl) rfl ?_
  intro p e s m below meth c C hr _
  have C : ns_Cx G p s m _ meth c prog_8_method_3_code "NinthStep$TurnPlan" 5 := C
  unfold g_TurnPlan_madeAt at hf
  obtain ⟨hk_a0, hf⟩ := grd_e hf
  refine v_iconst C (0) (0) (by decide) 1 rfl (by decide +kernel) ?_
  refine v_istore_n C 2 [(2, .int (0 : Int32)), (0, .ref (G.1 + a0)), (1, .int x1)] (by decide) rfl 2 rfl (by decide +kernel) ?_
  refine v_aload_n C 0 1 rfl 3 rfl (by decide +kernel) ?_
  refine v_getI C 6 5 rfl nin_6 (ns_kd_lt hk_a0 (by decide)) hk_a0 (by decide) (by decide) rfl 40 tw_198 rfl 6 rfl (by decide +kernel) ?_
  obtain ⟨z31, hz31, hf⟩ := bnd_e hf
  refine v_nmI hz31 ?_
  refine v_istore_n C 3 [(3, .int z31), (2, .int (0 : Int32)), (0, .ref (G.1 + a0)), (1, .int x1)] (by decide) rfl 7 rfl (by decide +kernel) ?_
  refine v_aload_n C 0 2 rfl 8 rfl (by decide +kernel) ?_
  refine v_getI C 6 4 rfl nin_6 (ns_kd_lt hk_a0 (by decide)) hk_a0 (by decide) (by decide) rfl 33 tw_197 rfl 11 rfl (by decide +kernel) ?_
  obtain ⟨z32, hz32, hf⟩ := bnd_e hf
  refine v_nmI hz32 ?_
  refine v_istore C 4 [(4, .int z32), (3, .int z31), (2, .int (0 : Int32)), (0, .ref (G.1 + a0)), (1, .int x1)] (by decide) rfl 13 rfl (by decide +kernel) ?_
  refine v_sub [3, 4, 2, 1, 0] rfl ?_
  exact t_TurnPlan_madeAt_13 G l C hr  ns_F σ a0 x1 (0 : Int32) z31 z32 hk_a0 hf
theorem hd_TurnPlan_madeAt : (⟨"NinthStep$TurnPlan", "madeAt", "(I)I"⟩ : MethodName).cls = "NinthStep$TurnPlan" ∧ (⟨"NinthStep$TurnPlan", "madeAt", "(I)I"⟩ : MethodName).cls ≠ "java/lang/invoke/MethodHandle" ∧ (⟨"NinthStep$TurnPlan", "madeAt", "(I)I"⟩ : MethodName).cls ≠ "java/lang/invoke/VarHandle" ∧ (parseMethodDescriptor (⟨"NinthStep$TurnPlan", "madeAt", "(I)I"⟩ : MethodName).desc).map (fun d => d.parameters.length) = some 1 := by decide +kernel
def g_N_turns_33  (σ : ns_St) (a0 : Nat) (x2 : Int32) (a3 : Nat) : Option (Int32 × ns_St) := cl2 (g_N_stopsOf σ a0 a3) fun r29 σ28 => cl2 (g_N_isGood σ28 a0 (σ.1 a3 2) r29) fun r31 σ30 => ite2 (r31 = 0) (drf (σ30.2.2 a0 5) fun b33 => grd (ns_kd b33 = 6) <| drf (σ30.2.2 a0 0) fun b34 => grd (ns_kd b34 = 7) <| drf (σ30.2.2 b34 0) fun b35 => grd (ns_kd b35 = 1) <| cl2 (g_TurnPlan_make σ30 b33 a3 b35) fun r37 σ36 => ite2 (r37 = (-1 : Int32)) (some (r37, σ36)) (ite2 (x2 = (-1 : Int32)) (some (r37, σ36)) (drf (σ36.2.2 a0 5) fun b40 => grd (ns_kd b40 = 6) <| cl2 (g_TurnPlan_madeAt σ36 b40 x2) fun r42 σ41 => some (r42, σ41)))) (some ((0 : Int32), σ30))
def g_N_turns (σ : ns_St) (a0 : Nat) (x1 : Int32) (x2 : Int32) : Option (Int32 × ns_St) := grd (ns_kd a0 = 8) <| drf (σ.2.2 a0 0) fun b43 => grd (ns_kd b43 = 7) <| cl2 (g_World_muleAt σ b43 x1) fun r45 σ44 => onul r45 (cl2 (g_N_refuse σ44 a0 (-2 : Int32)) fun r48 σ47 => some (r48, σ47)) (fun b46 => grd (ns_kd b46 = 2) <| ite2 (x2 = (-1 : Int32)) (g_N_turns_33 σ44 a0 x2 b46) (cl2 (g_N_isPlace σ44 a0 x2) fun r51 σ50 => ite2 (r51 = 0) (cl2 (g_N_refuse σ50 a0 (-2 : Int32)) fun r54 σ53 => some (r54, σ53)) (g_N_turns_33 σ50 a0 x2 b46)))
theorem t_N_turns_33 (G : ns_G) (l : Launch) {p : Program} {e : Env} {s : State} {m : MethodId} {args : Array Value} {below : List Frame} {meth : Method} {c : Code} (C : ns_Cx G p s m args meth c prog_1_method_26_code "NinthStep" 5) (hr : meth.sig.returnType = (some .int)) {r : Int32} {σ' : ns_St}  (σ : ns_St) (a0 : Nat) (x2 : Int32) (a3 : Nat) (hk_a0 : ns_kd a0 = 8) (hk_a3 : ns_kd a3 = 2) (hf : g_N_turns_33 σ a0 x2 a3 = some (r, σ')) : VV G p l e { frames := 5, cells := 0, slots := 0, locals := 118 } s m args below meth c 5 0 0 (MQ below (ns_Qc G (some (.int r)) ns_N σ') args s 0 0 (ns_A G)) ns_N σ 33 [(0, .ref (G.1 + a0)), (2, .int x2), (3, .ref (G.1 + a3))] [] := by
  unfold g_N_turns_33 at hf
  refine v_aload_n C 0 0 rfl 34 rfl (by decide +kernel) ?_
  refine v_aload_n C 3 2 rfl 35 rfl (by decide +kernel) ?_
  refine v_getIN C 2 2 rfl nin_2 (ns_kd_lt hk_a3 (by decide)) hk_a3 (by decide) (by decide) rfl 179 tw_93 rfl 38 rfl (by decide +kernel) ?_
  refine v_aload_n C 0 0 rfl 39 rfl (by decide +kernel) ?_
  refine v_aload_n C 3 2 rfl 40 rfl (by decide +kernel) ?_
  obtain ⟨r29, σ28, hcr29, hf⟩ := cl2_e hf
  refine v_cV C 8 rfl (ns_kd_lt hk_a0 (by decide)) hk_a0 (by decide) [.ref (G.1 + a3)] [.int (σ.1 a3 2), .ref (G.1 + a0)] (c_N_stopsOf G l σ a0 a3 hcr29) 209 1 tw_643 tw_640 tw_642 ts_29 tw_1 hd_N_stopsOf rfl ⟨(Nat.le_of_ble_eq_true rfl), (Nat.le_of_ble_eq_true rfl)⟩ ⟨(Nat.le_of_ble_eq_true rfl), (Nat.le_of_ble_eq_true rfl)⟩ (Nat.le_of_ble_eq_true rfl) rfl 43 rfl (by decide +kernel) [.long r29, .int (σ.1 a3 2), .ref (G.1 + a0)] rfl ?_
  obtain ⟨r31, σ30, hcr31, hf⟩ := cl2_e hf
  refine v_cV C 8 rfl (ns_kd_lt hk_a0 (by decide)) hk_a0 (by decide) [.int (σ.1 a3 2), .long r29] [] (c_N_isGood G l σ28 a0 (σ.1 a3 2) r29 hcr31) 230 2 tw_690 tw_687 tw_689 ts_36 tw_1 hd_N_isGood rfl ⟨(Nat.le_of_ble_eq_true rfl), (Nat.le_of_ble_eq_true rfl)⟩ ⟨(Nat.le_of_ble_eq_true rfl), (Nat.le_of_ble_eq_true rfl)⟩ (Nat.le_of_ble_eq_true rfl) rfl 46 rfl (by decide +kernel) [.int r31] rfl ?_
  refine v_if_eq C 51 49 rfl (by decide +kernel) (fun h32 => ?_) (fun h32 => ?_)
  · have hf := ite2_t hf h32
    refine v_aload_n C 0 0 rfl 52 rfl (by decide +kernel) ?_
    obtain ⟨b33, hb33, hf⟩ := drf_e hf
    obtain ⟨hk_b33, hf⟩ := grd_e hf
    refine v_getR C 8 5 hb33 rfl nin_8 (ns_kd_lt hk_a0 (by decide)) hk_a0 (by decide) (by decide) rfl 38 tw_292 rfl 55 rfl (by decide +kernel) ?_
    refine v_aload_n C 3 2 rfl 56 rfl (by decide +kernel) ?_
    refine v_aload_n C 0 0 rfl 57 rfl (by decide +kernel) ?_
    obtain ⟨b34, hb34, hf⟩ := drf_e hf
    obtain ⟨hk_b34, hf⟩ := grd_e hf
    refine v_getR C 8 0 hb34 rfl nin_8 (ns_kd_lt hk_a0 (by decide)) hk_a0 (by decide) (by decide) rfl 12 tw_287 rfl 60 rfl (by decide +kernel) ?_
    obtain ⟨b35, hb35, hf⟩ := drf_e hf
    obtain ⟨hk_b35, hf⟩ := grd_e hf
    refine v_getRN C 7 0 hb35 rfl nin_7 (ns_kd_lt hk_b34 (by decide)) hk_b34 (by decide) (by decide) rfl 138 tw_128 rfl 63 rfl (by decide +kernel) ?_
    obtain ⟨r37, σ36, hcr37, hf⟩ := cl2_e hf
    refine v_cVN C 6 rfl (ns_kd_lt hk_b33 (by decide)) hk_b33 (by decide) [.ref (G.1 + a3), .ref (G.1 + b35)] [] (c_TurnPlan_make G l σ30 b33 a3 b35 hcr37) 245 2 tw_711 tw_708 tw_710 ts_38 tw_6 hd_TurnPlan_make rfl ⟨(Nat.le_of_ble_eq_true rfl), (Nat.le_of_ble_eq_true rfl)⟩ ⟨(Nat.le_of_ble_eq_true rfl), (Nat.le_of_ble_eq_true rfl)⟩ (Nat.le_of_ble_eq_true rfl) rfl 66 rfl (by decide +kernel) [.int r37] rfl ?_
    refine v_istore C 4 [(4, .int r37), (0, .ref (G.1 + a0)), (2, .int x2), (3, .ref (G.1 + a3))] (by decide) rfl 68 rfl (by decide +kernel) ?_
    refine v_iload C 4 0 rfl 70 rfl (by decide +kernel) ?_
    refine v_iconst C (-1) (-1) (by decide) 71 rfl (by decide +kernel) ?_
    refine v_icmp_eq C 79 74 rfl (by decide +kernel) (fun h38 => ?_) (fun h38 => ?_)
    · have hf := ite2_t hf h38
      refine v_iload C 4 0 rfl 81 rfl (by decide +kernel) ?_
      obtain ⟨rfl, rfl⟩ := ret_e hf
      exact v_iret C hr (by decide +kernel)
    · have hf := ite2_f hf h38
      refine v_iload_n C 2 2 rfl 75 rfl (by decide +kernel) ?_
      refine v_iconst C (-1) (-1) (by decide) 76 rfl (by decide +kernel) ?_
      refine v_icmp_ne C 82 79 rfl (by decide +kernel) (fun h39 => ?_) (fun h39 => ?_)
      · have hf := ite2_f hf h39
        refine v_aload_n C 0 1 rfl 83 rfl (by decide +kernel) ?_
        obtain ⟨b40, hb40, hf⟩ := drf_e hf
        obtain ⟨hk_b40, hf⟩ := grd_e hf
        refine v_getR C 8 5 hb40 rfl nin_8 (ns_kd_lt hk_a0 (by decide)) hk_a0 (by decide) (by decide) rfl 38 tw_292 rfl 86 rfl (by decide +kernel) ?_
        refine v_iload_n C 2 2 rfl 87 rfl (by decide +kernel) ?_
        obtain ⟨r42, σ41, hcr42, hf⟩ := cl2_e hf
        refine v_cVN C 6 rfl (ns_kd_lt hk_b40 (by decide)) hk_b40 (by decide) [.int x2] [] (c_TurnPlan_madeAt G l σ36 b40 x2 hcr42) 249 1 tw_746 tw_743 tw_745 ts_44 tw_6 hd_TurnPlan_madeAt rfl ⟨(Nat.le_of_ble_eq_true rfl), (Nat.le_of_ble_eq_true rfl)⟩ ⟨(Nat.le_of_ble_eq_true rfl), (Nat.le_of_ble_eq_true rfl)⟩ (Nat.le_of_ble_eq_true rfl) rfl 90 rfl (by decide +kernel) [.int r42] rfl ?_
        obtain ⟨rfl, rfl⟩ := ret_e hf
        exact v_iret C hr (by decide +kernel)
      · have hf := ite2_t hf h39
        refine v_iload C 4 0 rfl 81 rfl (by decide +kernel) ?_
        obtain ⟨rfl, rfl⟩ := ret_e hf
        exact v_iret C hr (by decide +kernel)
  · have hf := ite2_f hf h32
    refine v_iconst C (0) (0) (by decide) 50 rfl (by decide +kernel) ?_
    obtain ⟨rfl, rfl⟩ := ret_e hf
    exact v_iret C hr (by decide +kernel)
theorem c_N_turns (G : ns_G) (l : Launch) (σ : ns_St) (a0 : Nat) (x1 : Int32) (x2 : Int32) {r : Int32} {σ' : ns_St} (hf : g_N_turns σ a0 x1 x2 = some (r, σ')) : ns_ok G l ⟨"NinthStep", "turns", "(II)I"⟩ prog_1_method_26_code 5 (some .int) 5 118 0 0 [.ref (G.1 + a0), .int x1, .int x2] ns_N σ (some (.int r)) ns_N σ' := by
  refine v_open (by decide) (Nat.le_of_ble_eq_true rfl) rfl ?_
  intro p e s m below meth c C hr _
  have C : ns_Cx G p s m _ meth c prog_1_method_26_code "NinthStep" 5 := C
  unfold g_N_turns at hf
  obtain ⟨hk_a0, hf⟩ := grd_e hf
  refine v_aload_n C 0 0 rfl 1 rfl (by decide +kernel) ?_
  obtain ⟨b43, hb43, hf⟩ := drf_e hf
  obtain ⟨hk_b43, hf⟩ := grd_e hf
  refine v_getR C 8 0 hb43 rfl nin_8 (ns_kd_lt hk_a0 (by decide)) hk_a0 (by decide) (by decide) rfl 12 tw_287 rfl 4 rfl (by decide +kernel) ?_
  refine v_iload_n C 1 1 rfl 5 rfl (by decide +kernel) ?_
  obtain ⟨r45, σ44, hcr45, hf⟩ := cl2_e hf
  rcases r45 with _ | b46
  · have hf := onul_n hf
    refine v_cVN C 7 rfl (ns_kd_lt hk_b43 (by decide)) hk_b43 (by decide) [.int x1] [] (c_World_muleAt G l σ b43 x1 hcr45) 120 1 tw_390 tw_387 tw_389 ts_7 tw_2 hd_World_muleAt rfl ⟨(Nat.le_of_ble_eq_true rfl), (Nat.le_of_ble_eq_true rfl)⟩ ⟨(Nat.le_of_ble_eq_true rfl), (Nat.le_of_ble_eq_true rfl)⟩ (Nat.le_of_ble_eq_true rfl) rfl 8 rfl (by decide +kernel) [.null] rfl ?_
    refine v_astore_nN C 3 [(3, .null), (0, .ref (G.1 + a0)), (1, .int x1), (2, .int x2)] (by decide) rfl 9 rfl (by decide +kernel) ?_
    refine v_aload_nN C 3 0 rfl 10 rfl (by decide +kernel) ?_
    refine v_ifnullN C 26 (by decide +kernel) ?_
    refine v_aload_n C 0 1 rfl 27 rfl (by decide +kernel) ?_
    refine v_bipush C (-2) (-2) (by decide) 29 rfl (by decide +kernel) ?_
    obtain ⟨r48, σ47, hcr48, hf⟩ := cl2_e hf
    refine v_cV C 8 rfl (ns_kd_lt hk_a0 (by decide)) hk_a0 (by decide) [.int (-2 : Int32)] [] (c_N_refuse G l σ44 a0 (-2 : Int32) hcr48) 79 1 tw_338 tw_335 tw_337 ts_1 tw_1 hd_N_refuse rfl ⟨(Nat.le_of_ble_eq_true rfl), (Nat.le_of_ble_eq_true rfl)⟩ ⟨(Nat.le_of_ble_eq_true rfl), (Nat.le_of_ble_eq_true rfl)⟩ (Nat.le_of_ble_eq_true rfl) rfl 32 rfl (by decide +kernel) [.int r48] rfl ?_
    obtain ⟨rfl, rfl⟩ := ret_e hf
    exact v_iret C hr (by decide +kernel)
  · have hf := onul_s hf
    obtain ⟨hk_b46, hf⟩ := grd_e hf
    refine v_cVN C 7 rfl (ns_kd_lt hk_b43 (by decide)) hk_b43 (by decide) [.int x1] [] (c_World_muleAt G l σ b43 x1 hcr45) 120 1 tw_390 tw_387 tw_389 ts_7 tw_2 hd_World_muleAt rfl ⟨(Nat.le_of_ble_eq_true rfl), (Nat.le_of_ble_eq_true rfl)⟩ ⟨(Nat.le_of_ble_eq_true rfl), (Nat.le_of_ble_eq_true rfl)⟩ (Nat.le_of_ble_eq_true rfl) rfl 8 rfl (by decide +kernel) [.ref (G.1 + b46)] rfl ?_
    refine v_astore_n C 3 [(3, .ref (G.1 + b46)), (0, .ref (G.1 + a0)), (1, .int x1), (2, .int x2)] (by decide) rfl 9 rfl (by decide +kernel) ?_
    refine v_aload_n C 3 0 rfl 10 rfl (by decide +kernel) ?_
    refine v_ifnull C 26 13 rfl (by decide +kernel) ?_
    refine v_iload_n C 2 3 rfl 14 rfl (by decide +kernel) ?_
    refine v_iconst C (-1) (-1) (by decide) 15 rfl (by decide +kernel) ?_
    refine v_icmp_eq C 33 18 rfl (by decide +kernel) (fun h49 => ?_) (fun h49 => ?_)
    · have hf := ite2_t hf h49
      refine v_sub [1, 3, 0] rfl ?_
      exact t_N_turns_33 G l C hr  σ44 a0 x2 b46 hk_a0 hk_b46 hf
    · have hf := ite2_f hf h49
      refine v_aload_n C 0 1 rfl 19 rfl (by decide +kernel) ?_
      refine v_iload_n C 2 3 rfl 20 rfl (by decide +kernel) ?_
      obtain ⟨r51, σ50, hcr51, hf⟩ := cl2_e hf
      refine v_cV C 8 rfl (ns_kd_lt hk_a0 (by decide)) hk_a0 (by decide) [.int x2] [] (c_N_isPlace G l σ44 a0 x2 hcr51) 150 1 tw_448 tw_445 tw_447 ts_10 tw_1 hd_N_isPlace rfl ⟨(Nat.le_of_ble_eq_true rfl), (Nat.le_of_ble_eq_true rfl)⟩ ⟨(Nat.le_of_ble_eq_true rfl), (Nat.le_of_ble_eq_true rfl)⟩ (Nat.le_of_ble_eq_true rfl) rfl 23 rfl (by decide +kernel) [.int r51] rfl ?_
      refine v_if_ne C 33 26 rfl (by decide +kernel) (fun h52 => ?_) (fun h52 => ?_)
      · have hf := ite2_f hf h52
        refine v_sub [1, 3, 0] rfl ?_
        exact t_N_turns_33 G l C hr  σ50 a0 x2 b46 hk_a0 hk_b46 hf
      · have hf := ite2_t hf h52
        refine v_aload_n C 0 1 rfl 27 rfl (by decide +kernel) ?_
        refine v_bipush C (-2) (-2) (by decide) 29 rfl (by decide +kernel) ?_
        obtain ⟨r54, σ53, hcr54, hf⟩ := cl2_e hf
        refine v_cV C 8 rfl (ns_kd_lt hk_a0 (by decide)) hk_a0 (by decide) [.int (-2 : Int32)] [] (c_N_refuse G l σ50 a0 (-2 : Int32) hcr54) 79 1 tw_338 tw_335 tw_337 ts_1 tw_1 hd_N_refuse rfl ⟨(Nat.le_of_ble_eq_true rfl), (Nat.le_of_ble_eq_true rfl)⟩ ⟨(Nat.le_of_ble_eq_true rfl), (Nat.le_of_ble_eq_true rfl)⟩ (Nat.le_of_ble_eq_true rfl) rfl 32 rfl (by decide +kernel) [.int r54] rfl ?_
        obtain ⟨rfl, rfl⟩ := ret_e hf
        exact v_iret C hr (by decide +kernel)
theorem hd_N_turns : (⟨"NinthStep", "turns", "(II)I"⟩ : MethodName).cls = "NinthStep" ∧ (⟨"NinthStep", "turns", "(II)I"⟩ : MethodName).cls ≠ "java/lang/invoke/MethodHandle" ∧ (⟨"NinthStep", "turns", "(II)I"⟩ : MethodName).cls ≠ "java/lang/invoke/VarHandle" ∧ (parseMethodDescriptor (⟨"NinthStep", "turns", "(II)I"⟩ : MethodName).desc).map (fun d => d.parameters.length) = some 2 := by decide +kernel
def g_N_roped (σ : ns_St) (a0 : Nat) (x1 : Int32) (x2 : Int32) (x3 : Int32) : Option (Int32 × ns_St) := grd (ns_kd a0 = 8) <| drf (σ.2.2 a0 0) fun b38 => grd (ns_kd b38 = 7) <| cl2 (g_World_muleAt σ b38 x1) fun r40 σ39 => onul r40 (drf (σ39.2.2 a0 0) fun b42 => grd (ns_kd b42 = 7) <| cl2 (g_World_muleAt σ39 b42 x2) fun r44 σ43 => onul r44 (cl2 (g_N_refuse σ43 a0 (-2 : Int32)) fun r47 σ46 => some (r47, σ46)) (fun b45 => grd (ns_kd b45 = 2) <| cl2 (g_N_refuse σ43 a0 (-2 : Int32)) fun r49 σ48 => some (r49, σ48))) (fun b41 => grd (ns_kd b41 = 2) <| drf (σ39.2.2 a0 0) fun b50 => grd (ns_kd b50 = 7) <| cl2 (g_World_muleAt σ39 b50 x2) fun r52 σ51 => onul r52 (cl2 (g_N_refuse σ51 a0 (-2 : Int32)) fun r55 σ54 => some (r55, σ54)) (fun b53 => grd (ns_kd b53 = 2) <| ite2 (x1 = x2) (cl2 (g_N_refuse σ51 a0 (-2 : Int32)) fun r58 σ57 => some (r58, σ57)) (cl2 (g_N_isWithin σ51 x3 (0 : Int32) (1 : Int32)) fun r60 σ59 => ite2 (r60 = 0) (cl2 (g_N_refuse σ59 a0 (-2 : Int32)) fun r74 σ73 => some (r74, σ73)) (cl2 (g_Math_max σ59 (σ59.1 b41 2) (σ59.1 b53 2)) fun r63 σ62 => cl2 (g_N_stopsBy σ62 a0 b41 r63 (σ62.1 b41 1) (σ62.1 b41 3)) fun r65 σ64 => cl2 (g_N_stopsBy σ64 a0 b53 r63 (σ64.1 b53 1) (σ64.1 b53 3)) fun r67 σ66 => ite2 (x3 = 0) (cl2 (g_Long_bitCount σ66 (r65 ||| r67)) fun r72 σ71 => some (r72, σ71)) (cl2 (g_N_firstOf σ66 (r65 &&& r67)) fun r70 σ69 => some (r70, σ69))))))
theorem c_N_roped (G : ns_G) (l : Launch) (σ : ns_St) (a0 : Nat) (x1 : Int32) (x2 : Int32) (x3 : Int32) {r : Int32} {σ' : ns_St} (hf : g_N_roped σ a0 x1 x2 x3 = some (r, σ')) : ns_ok G l ⟨"NinthStep", "roped", "(III)I"⟩ prog_1_method_27_code 11 (some .int) 3 72 0 0 [.ref (G.1 + a0), .int x1, .int x2, .int x3] ns_N σ (some (.int r)) ns_N σ' := by
  refine v_open (by decide) (Nat.le_of_ble_eq_true rfl) rfl ?_
  intro p e s m below meth c C hr _
  have C : ns_Cx G p s m _ meth c prog_1_method_27_code "NinthStep" 11 := C
  unfold g_N_roped at hf
  obtain ⟨hk_a0, hf⟩ := grd_e hf
  refine v_aload_n C 0 0 rfl 1 rfl (by decide +kernel) ?_
  obtain ⟨b38, hb38, hf⟩ := drf_e hf
  obtain ⟨hk_b38, hf⟩ := grd_e hf
  refine v_getR C 8 0 hb38 rfl nin_8 (ns_kd_lt hk_a0 (by decide)) hk_a0 (by decide) (by decide) rfl 12 tw_287 rfl 4 rfl (by decide +kernel) ?_
  refine v_iload_n C 1 1 rfl 5 rfl (by decide +kernel) ?_
  obtain ⟨r40, σ39, hcr40, hf⟩ := cl2_e hf
  rcases r40 with _ | b41
  · have hf := onul_n hf
    refine v_cVN C 7 rfl (ns_kd_lt hk_b38 (by decide)) hk_b38 (by decide) [.int x1] [] (c_World_muleAt G l σ b38 x1 hcr40) 120 1 tw_390 tw_387 tw_389 ts_7 tw_2 hd_World_muleAt rfl ⟨(Nat.le_of_ble_eq_true rfl), (Nat.le_of_ble_eq_true rfl)⟩ ⟨(Nat.le_of_ble_eq_true rfl), (Nat.le_of_ble_eq_true rfl)⟩ (Nat.le_of_ble_eq_true rfl) rfl 8 rfl (by decide +kernel) [.null] rfl ?_
    refine v_astoreN C 4 [(4, .null), (0, .ref (G.1 + a0)), (1, .int x1), (2, .int x2), (3, .int x3)] (by decide) rfl 10 rfl (by decide +kernel) ?_
    refine v_aload_n C 0 1 rfl 11 rfl (by decide +kernel) ?_
    obtain ⟨b42, hb42, hf⟩ := drf_e hf
    obtain ⟨hk_b42, hf⟩ := grd_e hf
    refine v_getR C 8 0 hb42 rfl nin_8 (ns_kd_lt hk_a0 (by decide)) hk_a0 (by decide) (by decide) rfl 12 tw_287 rfl 14 rfl (by decide +kernel) ?_
    refine v_iload_n C 2 3 rfl 15 rfl (by decide +kernel) ?_
    obtain ⟨r44, σ43, hcr44, hf⟩ := cl2_e hf
    rcases r44 with _ | b45
    · have hf := onul_n hf
      refine v_cVN C 7 rfl (ns_kd_lt hk_b42 (by decide)) hk_b42 (by decide) [.int x2] [] (c_World_muleAt G l σ39 b42 x2 hcr44) 120 1 tw_390 tw_387 tw_389 ts_7 tw_2 hd_World_muleAt rfl ⟨(Nat.le_of_ble_eq_true rfl), (Nat.le_of_ble_eq_true rfl)⟩ ⟨(Nat.le_of_ble_eq_true rfl), (Nat.le_of_ble_eq_true rfl)⟩ (Nat.le_of_ble_eq_true rfl) rfl 18 rfl (by decide +kernel) [.null] rfl ?_
      refine v_astoreN C 5 [(5, .null), (4, .null), (0, .ref (G.1 + a0)), (1, .int x1), (2, .int x2), (3, .int x3)] (by decide) rfl 20 rfl (by decide +kernel) ?_
      refine v_aloadN C 4 1 rfl 22 rfl (by decide +kernel) ?_
      refine v_ifnullN C 44 (by decide +kernel) ?_
      refine v_aload_n C 0 2 rfl 45 rfl (by decide +kernel) ?_
      refine v_bipush C (-2) (-2) (by decide) 47 rfl (by decide +kernel) ?_
      obtain ⟨r47, σ46, hcr47, hf⟩ := cl2_e hf
      refine v_cV C 8 rfl (ns_kd_lt hk_a0 (by decide)) hk_a0 (by decide) [.int (-2 : Int32)] [] (c_N_refuse G l σ43 a0 (-2 : Int32) hcr47) 79 1 tw_338 tw_335 tw_337 ts_1 tw_1 hd_N_refuse rfl ⟨(Nat.le_of_ble_eq_true rfl), (Nat.le_of_ble_eq_true rfl)⟩ ⟨(Nat.le_of_ble_eq_true rfl), (Nat.le_of_ble_eq_true rfl)⟩ (Nat.le_of_ble_eq_true rfl) rfl 50 rfl (by decide +kernel) [.int r47] rfl ?_
      obtain ⟨rfl, rfl⟩ := ret_e hf
      exact v_iret C hr (by decide +kernel)
    · have hf := onul_s hf
      obtain ⟨hk_b45, hf⟩ := grd_e hf
      refine v_cVN C 7 rfl (ns_kd_lt hk_b42 (by decide)) hk_b42 (by decide) [.int x2] [] (c_World_muleAt G l σ39 b42 x2 hcr44) 120 1 tw_390 tw_387 tw_389 ts_7 tw_2 hd_World_muleAt rfl ⟨(Nat.le_of_ble_eq_true rfl), (Nat.le_of_ble_eq_true rfl)⟩ ⟨(Nat.le_of_ble_eq_true rfl), (Nat.le_of_ble_eq_true rfl)⟩ (Nat.le_of_ble_eq_true rfl) rfl 18 rfl (by decide +kernel) [.ref (G.1 + b45)] rfl ?_
      refine v_astore C 5 [(5, .ref (G.1 + b45)), (4, .null), (0, .ref (G.1 + a0)), (1, .int x1), (2, .int x2), (3, .int x3)] (by decide) rfl 20 rfl (by decide +kernel) ?_
      refine v_aloadN C 4 1 rfl 22 rfl (by decide +kernel) ?_
      refine v_ifnullN C 44 (by decide +kernel) ?_
      refine v_aload_n C 0 2 rfl 45 rfl (by decide +kernel) ?_
      refine v_bipush C (-2) (-2) (by decide) 47 rfl (by decide +kernel) ?_
      obtain ⟨r49, σ48, hcr49, hf⟩ := cl2_e hf
      refine v_cV C 8 rfl (ns_kd_lt hk_a0 (by decide)) hk_a0 (by decide) [.int (-2 : Int32)] [] (c_N_refuse G l σ43 a0 (-2 : Int32) hcr49) 79 1 tw_338 tw_335 tw_337 ts_1 tw_1 hd_N_refuse rfl ⟨(Nat.le_of_ble_eq_true rfl), (Nat.le_of_ble_eq_true rfl)⟩ ⟨(Nat.le_of_ble_eq_true rfl), (Nat.le_of_ble_eq_true rfl)⟩ (Nat.le_of_ble_eq_true rfl) rfl 50 rfl (by decide +kernel) [.int r49] rfl ?_
      obtain ⟨rfl, rfl⟩ := ret_e hf
      exact v_iret C hr (by decide +kernel)
  · have hf := onul_s hf
    obtain ⟨hk_b41, hf⟩ := grd_e hf
    refine v_cVN C 7 rfl (ns_kd_lt hk_b38 (by decide)) hk_b38 (by decide) [.int x1] [] (c_World_muleAt G l σ b38 x1 hcr40) 120 1 tw_390 tw_387 tw_389 ts_7 tw_2 hd_World_muleAt rfl ⟨(Nat.le_of_ble_eq_true rfl), (Nat.le_of_ble_eq_true rfl)⟩ ⟨(Nat.le_of_ble_eq_true rfl), (Nat.le_of_ble_eq_true rfl)⟩ (Nat.le_of_ble_eq_true rfl) rfl 8 rfl (by decide +kernel) [.ref (G.1 + b41)] rfl ?_
    refine v_astore C 4 [(4, .ref (G.1 + b41)), (0, .ref (G.1 + a0)), (1, .int x1), (2, .int x2), (3, .int x3)] (by decide) rfl 10 rfl (by decide +kernel) ?_
    refine v_aload_n C 0 1 rfl 11 rfl (by decide +kernel) ?_
    obtain ⟨b50, hb50, hf⟩ := drf_e hf
    obtain ⟨hk_b50, hf⟩ := grd_e hf
    refine v_getR C 8 0 hb50 rfl nin_8 (ns_kd_lt hk_a0 (by decide)) hk_a0 (by decide) (by decide) rfl 12 tw_287 rfl 14 rfl (by decide +kernel) ?_
    refine v_iload_n C 2 3 rfl 15 rfl (by decide +kernel) ?_
    obtain ⟨r52, σ51, hcr52, hf⟩ := cl2_e hf
    rcases r52 with _ | b53
    · have hf := onul_n hf
      refine v_cVN C 7 rfl (ns_kd_lt hk_b50 (by decide)) hk_b50 (by decide) [.int x2] [] (c_World_muleAt G l σ39 b50 x2 hcr52) 120 1 tw_390 tw_387 tw_389 ts_7 tw_2 hd_World_muleAt rfl ⟨(Nat.le_of_ble_eq_true rfl), (Nat.le_of_ble_eq_true rfl)⟩ ⟨(Nat.le_of_ble_eq_true rfl), (Nat.le_of_ble_eq_true rfl)⟩ (Nat.le_of_ble_eq_true rfl) rfl 18 rfl (by decide +kernel) [.null] rfl ?_
      refine v_astoreN C 5 [(5, .null), (4, .ref (G.1 + b41)), (0, .ref (G.1 + a0)), (1, .int x1), (2, .int x2), (3, .int x3)] (by decide) rfl 20 rfl (by decide +kernel) ?_
      refine v_aload C 4 1 rfl 22 rfl (by decide +kernel) ?_
      refine v_ifnull C 44 25 rfl (by decide +kernel) ?_
      refine v_aloadN C 5 0 rfl 27 rfl (by decide +kernel) ?_
      refine v_ifnullN C 44 (by decide +kernel) ?_
      refine v_aload_n C 0 2 rfl 45 rfl (by decide +kernel) ?_
      refine v_bipush C (-2) (-2) (by decide) 47 rfl (by decide +kernel) ?_
      obtain ⟨r55, σ54, hcr55, hf⟩ := cl2_e hf
      refine v_cV C 8 rfl (ns_kd_lt hk_a0 (by decide)) hk_a0 (by decide) [.int (-2 : Int32)] [] (c_N_refuse G l σ51 a0 (-2 : Int32) hcr55) 79 1 tw_338 tw_335 tw_337 ts_1 tw_1 hd_N_refuse rfl ⟨(Nat.le_of_ble_eq_true rfl), (Nat.le_of_ble_eq_true rfl)⟩ ⟨(Nat.le_of_ble_eq_true rfl), (Nat.le_of_ble_eq_true rfl)⟩ (Nat.le_of_ble_eq_true rfl) rfl 50 rfl (by decide +kernel) [.int r55] rfl ?_
      obtain ⟨rfl, rfl⟩ := ret_e hf
      exact v_iret C hr (by decide +kernel)
    · have hf := onul_s hf
      obtain ⟨hk_b53, hf⟩ := grd_e hf
      refine v_cVN C 7 rfl (ns_kd_lt hk_b50 (by decide)) hk_b50 (by decide) [.int x2] [] (c_World_muleAt G l σ39 b50 x2 hcr52) 120 1 tw_390 tw_387 tw_389 ts_7 tw_2 hd_World_muleAt rfl ⟨(Nat.le_of_ble_eq_true rfl), (Nat.le_of_ble_eq_true rfl)⟩ ⟨(Nat.le_of_ble_eq_true rfl), (Nat.le_of_ble_eq_true rfl)⟩ (Nat.le_of_ble_eq_true rfl) rfl 18 rfl (by decide +kernel) [.ref (G.1 + b53)] rfl ?_
      refine v_astore C 5 [(5, .ref (G.1 + b53)), (4, .ref (G.1 + b41)), (0, .ref (G.1 + a0)), (1, .int x1), (2, .int x2), (3, .int x3)] (by decide) rfl 20 rfl (by decide +kernel) ?_
      refine v_aload C 4 1 rfl 22 rfl (by decide +kernel) ?_
      refine v_ifnull C 44 25 rfl (by decide +kernel) ?_
      refine v_aload C 5 0 rfl 27 rfl (by decide +kernel) ?_
      refine v_ifnull C 44 30 rfl (by decide +kernel) ?_
      refine v_iload_n C 1 3 rfl 31 rfl (by decide +kernel) ?_
      refine v_iload_n C 2 4 rfl 32 rfl (by decide +kernel) ?_
      refine v_icmp_eq C 44 35 rfl (by decide +kernel) (fun h56 => ?_) (fun h56 => ?_)
      · have hf := ite2_t hf h56
        refine v_aload_n C 0 2 rfl 45 rfl (by decide +kernel) ?_
        refine v_bipush C (-2) (-2) (by decide) 47 rfl (by decide +kernel) ?_
        obtain ⟨r58, σ57, hcr58, hf⟩ := cl2_e hf
        refine v_cV C 8 rfl (ns_kd_lt hk_a0 (by decide)) hk_a0 (by decide) [.int (-2 : Int32)] [] (c_N_refuse G l σ51 a0 (-2 : Int32) hcr58) 79 1 tw_338 tw_335 tw_337 ts_1 tw_1 hd_N_refuse rfl ⟨(Nat.le_of_ble_eq_true rfl), (Nat.le_of_ble_eq_true rfl)⟩ ⟨(Nat.le_of_ble_eq_true rfl), (Nat.le_of_ble_eq_true rfl)⟩ (Nat.le_of_ble_eq_true rfl) rfl 50 rfl (by decide +kernel) [.int r58] rfl ?_
        obtain ⟨rfl, rfl⟩ := ret_e hf
        exact v_iret C hr (by decide +kernel)
      · have hf := ite2_f hf h56
        refine v_iload_n C 3 5 rfl 36 rfl (by decide +kernel) ?_
        refine v_iconst C (0) (0) (by decide) 37 rfl (by decide +kernel) ?_
        refine v_iconst C (1) (1) (by decide) 38 rfl (by decide +kernel) ?_
        obtain ⟨r60, σ59, hcr60, hf⟩ := cl2_e hf
        refine v_cS C [.int x3, .int (0 : Int32), .int (1 : Int32)] [] (c_N_isWithin G l σ51 x3 (0 : Int32) (1 : Int32) hcr60) 75 3 tw_334 tw_332 tw_333 tw_1 hd_N_isWithin rfl ⟨(Nat.le_of_ble_eq_true rfl), (Nat.le_of_ble_eq_true rfl)⟩ ⟨(Nat.le_of_ble_eq_true rfl), (Nat.le_of_ble_eq_true rfl)⟩ (Nat.le_of_ble_eq_true rfl) rfl 41 rfl (by decide +kernel) [.int r60] rfl ?_
        refine v_if_ne C 51 44 rfl (by decide +kernel) (fun h61 => ?_) (fun h61 => ?_)
        · have hf := ite2_f hf h61
          refine v_aload C 4 1 rfl 53 rfl (by decide +kernel) ?_
          refine v_getIN C 2 2 rfl nin_2 (ns_kd_lt hk_b41 (by decide)) hk_b41 (by decide) (by decide) rfl 179 tw_93 rfl 56 rfl (by decide +kernel) ?_
          refine v_aload C 5 0 rfl 58 rfl (by decide +kernel) ?_
          refine v_getIN C 2 2 rfl nin_2 (ns_kd_lt hk_b53 (by decide)) hk_b53 (by decide) (by decide) rfl 179 tw_93 rfl 61 rfl (by decide +kernel) ?_
          obtain ⟨r63, σ62, hcr63, hf⟩ := cl2_e hf
          refine v_cS C [.int (σ59.1 b41 2), .int (σ59.1 b53 2)] [] (c_Math_max G l σ59 (σ59.1 b41 2) (σ59.1 b53 2) hcr63) 252 2 tw_598 tw_755 tw_597 tw_18 hd_Math_max rfl ⟨(Nat.le_of_ble_eq_true rfl), (Nat.le_of_ble_eq_true rfl)⟩ ⟨(Nat.le_of_ble_eq_true rfl), (Nat.le_of_ble_eq_true rfl)⟩ (Nat.le_of_ble_eq_true rfl) rfl 64 rfl (by decide +kernel) [.int r63] rfl ?_
          refine v_istore C 6 [(6, .int r63), (5, .ref (G.1 + b53)), (4, .ref (G.1 + b41)), (0, .ref (G.1 + a0)), (1, .int x1), (2, .int x2), (3, .int x3)] (by decide) rfl 66 rfl (by decide +kernel) ?_
          refine v_aload_n C 0 3 rfl 67 rfl (by decide +kernel) ?_
          refine v_aload C 4 2 rfl 69 rfl (by decide +kernel) ?_
          refine v_iload C 6 0 rfl 71 rfl (by decide +kernel) ?_
          refine v_aload C 4 2 rfl 73 rfl (by decide +kernel) ?_
          refine v_getIN C 2 1 rfl nin_2 (ns_kd_lt hk_b41 (by decide)) hk_b41 (by decide) (by decide) rfl 176 tw_86 rfl 76 rfl (by decide +kernel) ?_
          refine v_aload C 4 2 rfl 78 rfl (by decide +kernel) ?_
          refine v_getIN C 2 3 rfl nin_2 (ns_kd_lt hk_b41 (by decide)) hk_b41 (by decide) (by decide) rfl 182 tw_97 rfl 81 rfl (by decide +kernel) ?_
          obtain ⟨r65, σ64, hcr65, hf⟩ := cl2_e hf
          refine v_cV C 8 rfl (ns_kd_lt hk_a0 (by decide)) hk_a0 (by decide) [.ref (G.1 + b41), .int r63, .int (σ62.1 b41 1), .int (σ62.1 b41 3)] [] (c_N_stopsBy G l σ62 a0 b41 r63 (σ62.1 b41 1) (σ62.1 b41 3) hcr65) 258 4 tw_647 tw_644 tw_646 ts_30 tw_1 hd_N_stopsBy rfl ⟨(Nat.le_of_ble_eq_true rfl), (Nat.le_of_ble_eq_true rfl)⟩ ⟨(Nat.le_of_ble_eq_true rfl), (Nat.le_of_ble_eq_true rfl)⟩ (Nat.le_of_ble_eq_true rfl) rfl 84 rfl (by decide +kernel) [.long r65] rfl ?_
          refine v_lstore C 7 [(7, .long r65), (6, .int r63), (5, .ref (G.1 + b53)), (4, .ref (G.1 + b41)), (0, .ref (G.1 + a0)), (1, .int x1), (2, .int x2), (3, .int x3)] (by decide) rfl 86 rfl (by decide +kernel) ?_
          refine v_aload_n C 0 4 rfl 87 rfl (by decide +kernel) ?_
          refine v_aload C 5 2 rfl 89 rfl (by decide +kernel) ?_
          refine v_iload C 6 1 rfl 91 rfl (by decide +kernel) ?_
          refine v_aload C 5 2 rfl 93 rfl (by decide +kernel) ?_
          refine v_getIN C 2 1 rfl nin_2 (ns_kd_lt hk_b53 (by decide)) hk_b53 (by decide) (by decide) rfl 176 tw_86 rfl 96 rfl (by decide +kernel) ?_
          refine v_aload C 5 2 rfl 98 rfl (by decide +kernel) ?_
          refine v_getIN C 2 3 rfl nin_2 (ns_kd_lt hk_b53 (by decide)) hk_b53 (by decide) (by decide) rfl 182 tw_97 rfl 101 rfl (by decide +kernel) ?_
          obtain ⟨r67, σ66, hcr67, hf⟩ := cl2_e hf
          refine v_cV C 8 rfl (ns_kd_lt hk_a0 (by decide)) hk_a0 (by decide) [.ref (G.1 + b53), .int r63, .int (σ64.1 b53 1), .int (σ64.1 b53 3)] [] (c_N_stopsBy G l σ64 a0 b53 r63 (σ64.1 b53 1) (σ64.1 b53 3) hcr67) 258 4 tw_647 tw_644 tw_646 ts_30 tw_1 hd_N_stopsBy rfl ⟨(Nat.le_of_ble_eq_true rfl), (Nat.le_of_ble_eq_true rfl)⟩ ⟨(Nat.le_of_ble_eq_true rfl), (Nat.le_of_ble_eq_true rfl)⟩ (Nat.le_of_ble_eq_true rfl) rfl 104 rfl (by decide +kernel) [.long r67] rfl ?_
          refine v_lstore C 9 [(9, .long r67), (7, .long r65), (6, .int r63), (5, .ref (G.1 + b53)), (4, .ref (G.1 + b41)), (0, .ref (G.1 + a0)), (1, .int x1), (2, .int x2), (3, .int x3)] (by decide) rfl 106 rfl (by decide +kernel) ?_
          refine v_iload_n C 3 8 rfl 107 rfl (by decide +kernel) ?_
          refine v_if_ne C 121 110 rfl (by decide +kernel) (fun h68 => ?_) (fun h68 => ?_)
          · have hf := ite2_f hf h68
            refine v_lload C 7 1 rfl 123 rfl (by decide +kernel) ?_
            refine v_lload C 9 0 rfl 125 rfl (by decide +kernel) ?_
            refine v_land C 126 rfl (by decide +kernel) ?_
            obtain ⟨r70, σ69, hcr70, hf⟩ := cl2_e hf
            refine v_cS C [.long (r65 &&& r67)] [] (c_N_firstOf G l σ66 (r65 &&& r67) hcr70) 238 1 tw_416 tw_414 tw_415 tw_1 hd_N_firstOf rfl ⟨(Nat.le_of_ble_eq_true rfl), (Nat.le_of_ble_eq_true rfl)⟩ ⟨(Nat.le_of_ble_eq_true rfl), (Nat.le_of_ble_eq_true rfl)⟩ (Nat.le_of_ble_eq_true rfl) rfl 129 rfl (by decide +kernel) [.int r70] rfl ?_
            obtain ⟨rfl, rfl⟩ := ret_e hf
            exact v_iret C hr (by decide +kernel)
          · have hf := ite2_t hf h68
            refine v_lload C 7 1 rfl 112 rfl (by decide +kernel) ?_
            refine v_lload C 9 0 rfl 114 rfl (by decide +kernel) ?_
            refine v_lor C 115 rfl (by decide +kernel) ?_
            obtain ⟨r72, σ71, hcr72, hf⟩ := cl2_e hf
            refine v_cS C [.long (r65 ||| r67)] [] (c_Long_bitCount G l σ66 (r65 ||| r67) hcr72) 213 1 tw_410 tw_408 tw_409 tw_12 hd_Long_bitCount rfl ⟨(Nat.le_of_ble_eq_true rfl), (Nat.le_of_ble_eq_true rfl)⟩ ⟨(Nat.le_of_ble_eq_true rfl), (Nat.le_of_ble_eq_true rfl)⟩ (Nat.le_of_ble_eq_true rfl) rfl 118 rfl (by decide +kernel) [.int r72] rfl ?_
            refine v_goto C 129 (by decide +kernel) ?_
            obtain ⟨rfl, rfl⟩ := ret_e hf
            exact v_iret C hr (by decide +kernel)
        · have hf := ite2_t hf h61
          refine v_aload_n C 0 2 rfl 45 rfl (by decide +kernel) ?_
          refine v_bipush C (-2) (-2) (by decide) 47 rfl (by decide +kernel) ?_
          obtain ⟨r74, σ73, hcr74, hf⟩ := cl2_e hf
          refine v_cV C 8 rfl (ns_kd_lt hk_a0 (by decide)) hk_a0 (by decide) [.int (-2 : Int32)] [] (c_N_refuse G l σ59 a0 (-2 : Int32) hcr74) 79 1 tw_338 tw_335 tw_337 ts_1 tw_1 hd_N_refuse rfl ⟨(Nat.le_of_ble_eq_true rfl), (Nat.le_of_ble_eq_true rfl)⟩ ⟨(Nat.le_of_ble_eq_true rfl), (Nat.le_of_ble_eq_true rfl)⟩ (Nat.le_of_ble_eq_true rfl) rfl 50 rfl (by decide +kernel) [.int r74] rfl ?_
          obtain ⟨rfl, rfl⟩ := ret_e hf
          exact v_iret C hr (by decide +kernel)
theorem hd_N_roped : (⟨"NinthStep", "roped", "(III)I"⟩ : MethodName).cls = "NinthStep" ∧ (⟨"NinthStep", "roped", "(III)I"⟩ : MethodName).cls ≠ "java/lang/invoke/MethodHandle" ∧ (⟨"NinthStep", "roped", "(III)I"⟩ : MethodName).cls ≠ "java/lang/invoke/VarHandle" ∧ (parseMethodDescriptor (⟨"NinthStep", "roped", "(III)I"⟩ : MethodName).desc).map (fun d => d.parameters.length) = some 3 := by decide +kernel
