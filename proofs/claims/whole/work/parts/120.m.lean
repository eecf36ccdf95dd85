def g_M_newStones_90 (kh78 : ns_St → Nat → Int32 → Option (Int32 × ns_St)) : Nat → ns_St → Nat → Int32 → Int32 → Option (Int32 × ns_St)
  | 0, _, _, _, _ => none
  | f + 1, σ, a0, x1, x2 => ite2 ((σ.1 a0 3) < x2) (bnd (x1 + 1) fun z54 => kh78 σ a0 z54) (cl2 (g_M_isThere σ a0 x1 (1 : Int32)) fun r56 σ55 => ite2 (r56 = 0) (cl2 (g_M_isThere σ55 a0 x2 (1 : Int32)) fun r60 σ59 => ite2 (r60 = 0) (drf (σ59.2.2 a0 4) fun b62 => grd (ns_kd b62 = 10) <| grd (ns_in x1 (ns_ln b62)) <| grd (ns_in x1 (ns_ln b62)) <| bnd (ns_pI σ59 b62 (ns_ix x1) ((σ59.1 b62 (ns_ix x1)) ||| (1 : Int32))) fun σ65 => drf (σ65.2.2 a0 4) fun b66 => grd (ns_kd b66 = 10) <| grd (ns_in x2 (ns_ln b66)) <| grd (ns_in x2 (ns_ln b66)) <| bnd (ns_pI σ65 b66 (ns_ix x2) ((σ65.1 b66 (ns_ix x2)) ||| (1 : Int32))) fun σ69 => cl2 (g_M_noneFalls σ69 a0) fun r71 σ70 => drf (σ70.2.2 a0 4) fun b72 => grd (ns_kd b72 = 10) <| grd (ns_in x1 (ns_ln b72)) <| grd (ns_in x1 (ns_ln b72)) <| bnd (ns_pI σ70 b72 (ns_ix x1) ((σ70.1 b72 (ns_ix x1)) &&& (-2 : Int32))) fun σ75 => drf (σ75.2.2 a0 4) fun b76 => grd (ns_kd b76 = 10) <| grd (ns_in x2 (ns_ln b76)) <| grd (ns_in x2 (ns_ln b76)) <| bnd (ns_pI σ75 b76 (ns_ix x2) ((σ75.1 b76 (ns_ix x2)) &&& (-2 : Int32))) fun σ79 => ite2 (r71 = 0) (bnd (x2 + 1) fun z81 => (g_M_newStones_90 kh78 f) σ79 a0 x1 z81) (some ((((20000 : Int32) + ((100 : Int32) * x1)) + x2), σ79))) (bnd (x2 + 1) fun z82 => (g_M_newStones_90 kh78 f) σ59 a0 x1 z82)) (bnd (x2 + 1) fun z58 => (g_M_newStones_90 kh78 f) σ55 a0 x1 z58))
def g_M_newStones_78  : Nat → ns_St → Nat → Int32 → Option (Int32 × ns_St)
  | 0, _, _, _ => none
  | f + 1, σ, a0, x1 => ite2 ((σ.1 a0 3) < x1) (some ((-1 : Int32), σ)) (bnd (x1 + (1 : Int32)) fun z84 => g_M_newStones_90 (g_M_newStones_78 f) ns_F σ a0 x1 z84)
def g_M_newStones_11  : Nat → ns_St → Nat → Int32 → Option (Int32 × ns_St)
  | 0, _, _, _ => none
  | f + 1, σ, a0, x1 => ite2 ((σ.1 a0 3) < x1) (g_M_newStones_78 ns_F σ a0 (1 : Int32)) (cl2 (g_M_isThere σ a0 x1 (1 : Int32)) fun r87 σ86 => ite2 (r87 = 0) (drf (σ86.2.2 a0 4) fun b89 => grd (ns_kd b89 = 10) <| grd (ns_in x1 (ns_ln b89)) <| grd (ns_in x1 (ns_ln b89)) <| bnd (ns_pI σ86 b89 (ns_ix x1) ((σ86.1 b89 (ns_ix x1)) ||| (1 : Int32))) fun σ92 => cl2 (g_M_noneFalls σ92 a0) fun r94 σ93 => drf (σ93.2.2 a0 4) fun b95 => grd (ns_kd b95 = 10) <| grd (ns_in x1 (ns_ln b95)) <| grd (ns_in x1 (ns_ln b95)) <| bnd (ns_pI σ93 b95 (ns_ix x1) ((σ93.1 b95 (ns_ix x1)) &&& (-2 : Int32))) fun σ98 => ite2 (r94 = 0) (bnd (x1 + 1) fun z100 => (g_M_newStones_11 f) σ98 a0 z100) (some (((10000 : Int32) + ((100 : Int32) * x1)), σ98))) (bnd (x1 + 1) fun z101 => (g_M_newStones_11 f) σ86 a0 z101))
def g_M_newStones (σ : ns_St) (a0 : Nat) : Option (Int32 × ns_St) := grd (ns_kd a0 = 9) <| cl2 (g_M_noneFalls σ a0) fun r103 σ102 => ite2 (r103 = 0) (g_M_newStones_11 ns_F σ102 a0 (1 : Int32)) (some ((0 : Int32), σ102))
theorem t_M_newStones_90 (G : ns_G) (l : Launch) {p : Program} {e : Env} {s : State} {m : MethodId} {args : Array Value} {below : List Frame} {meth : Method} {c : Code} (C : ns_Cx G p s m args meth c prog_11_method_65_code "NinthStepModel" 4) (hr : meth.sig.returnType = (some .int)) {r : Int32} {σ' : ns_St} {kh78 : ns_St → Nat → Int32 → Option (Int32 × ns_St)} (hkh78 : ∀ (σ : ns_St) (a0 : Nat) (x1 : Int32), ns_kd a0 = 9 → kh78 σ a0 x1 = some (r, σ') → VV G p l e { frames := 5, cells := 0, slots := 0, locals := 111 } s m args below meth c 4 0 0 (MQ below (ns_Qc G (some (.int r)) ns_N σ') args s 0 0 (ns_A G)) ns_N σ 78 [(0, .ref (G.1 + a0)), (1, .int x1)] []) : ∀ (f : Nat) (σ : ns_St) (a0 : Nat) (x1 : Int32) (x2 : Int32) (hk_a0 : ns_kd a0 = 9), g_M_newStones_90 kh78 f σ a0 x1 x2 = some (r, σ') → VV G p l e { frames := 5, cells := 0, slots := 0, locals := 111 } s m args below meth c 4 0 0 (MQ below (ns_Qc G (some (.int r)) ns_N σ') args s 0 0 (ns_A G)) ns_N σ 90 [(0, .ref (G.1 + a0)), (1, .int x1), (2, .int x2)] [] := by
  intro f
  induction f with
  | zero =>
    intro σ a0 x1 x2 hk_a0 hf
    cases hf
  | succ f ih =>
    intro σ a0 x1 x2 hk_a0 hf
    rw [g_M_newStones_90] at hf
    refine v_iload_n C 2 2 rfl 91 rfl (by decide +kernel) ?_
    refine v_aload_n C 0 0 rfl 92 rfl (by decide +kernel) ?_
    refine v_getI C 9 3 rfl nin_9 (ns_kd_lt hk_a0 (by decide)) hk_a0 (by decide) (by decide) rfl 59 tw_978 rfl 95 rfl (by decide +kernel) ?_
    refine v_icmp_gt C 187 98 rfl (by decide +kernel) (fun h53 => ?_) (fun h53 => ?_)
    · have hf := ite2_t hf h53
      obtain ⟨z54, hz54, hf⟩ := bnd_e hf
      refine v_iinc C 1 (1) 1 z54 rfl (by rw [hz54]; rfl) [(1, .int z54), (0, .ref (G.1 + a0)), (2, .int x2)] (by decide) rfl 190 rfl (by decide +kernel) ?_
      refine v_goto C 78 (by decide +kernel) ?_
      refine v_sub [1, 0] rfl ?_
      exact hkh78 σ a0 z54 hk_a0 hf
    · have hf := ite2_f hf h53
      refine v_aload_n C 0 0 rfl 99 rfl (by decide +kernel) ?_
      refine v_iload_n C 1 1 rfl 100 rfl (by decide +kernel) ?_
      refine v_iconst C (1) (1) (by decide) 101 rfl (by decide +kernel) ?_
      obtain ⟨r56, σ55, hcr56, hf⟩ := cl2_e hf
      refine v_cV C 9 rfl (ns_kd_lt hk_a0 (by decide)) hk_a0 (by decide) [.int x1, .int (1 : Int32)] [] (c_M_isThere G l σ a0 x1 (1 : Int32) hcr56) 87 2 tw_1130 tw_1127 tw_1129 ts_79 tw_10 hd_M_isThere rfl ⟨(Nat.le_of_ble_eq_true rfl), (Nat.le_of_ble_eq_true rfl)⟩ ⟨(Nat.le_of_ble_eq_true rfl), (Nat.le_of_ble_eq_true rfl)⟩ (Nat.le_of_ble_eq_true rfl) rfl 104 rfl (by decide +kernel) [.int r56] rfl ?_
      refine v_if_ne C 181 107 rfl (by decide +kernel) (fun h57 => ?_) (fun h57 => ?_)
      · have hf := ite2_f hf h57
        obtain ⟨z58, hz58, hf⟩ := bnd_e hf
        refine v_iinc C 2 (1) 2 z58 rfl (by rw [hz58]; rfl) [(2, .int z58), (0, .ref (G.1 + a0)), (1, .int x1)] (by decide) rfl 184 rfl (by decide +kernel) ?_
        refine v_goto C 90 (by decide +kernel) ?_
        refine v_sub [1, 2, 0] rfl ?_
        exact ih σ55 a0 x1 z58 hk_a0 hf
      · have hf := ite2_t hf h57
        refine v_aload_n C 0 0 rfl 108 rfl (by decide +kernel) ?_
        refine v_iload_n C 2 2 rfl 109 rfl (by decide +kernel) ?_
        refine v_iconst C (1) (1) (by decide) 110 rfl (by decide +kernel) ?_
        obtain ⟨r60, σ59, hcr60, hf⟩ := cl2_e hf
        refine v_cV C 9 rfl (ns_kd_lt hk_a0 (by decide)) hk_a0 (by decide) [.int x2, .int (1 : Int32)] [] (c_M_isThere G l σ55 a0 x2 (1 : Int32) hcr60) 87 2 tw_1130 tw_1127 tw_1129 ts_79 tw_10 hd_M_isThere rfl ⟨(Nat.le_of_ble_eq_true rfl), (Nat.le_of_ble_eq_true rfl)⟩ ⟨(Nat.le_of_ble_eq_true rfl), (Nat.le_of_ble_eq_true rfl)⟩ (Nat.le_of_ble_eq_true rfl) rfl 113 rfl (by decide +kernel) [.int r60] rfl ?_
        refine v_if_eq C 119 116 rfl (by decide +kernel) (fun h61 => ?_) (fun h61 => ?_)
        · have hf := ite2_t hf h61
          refine v_aload_n C 0 0 rfl 120 rfl (by decide +kernel) ?_
          obtain ⟨b62, hb62, hf⟩ := drf_e hf
          obtain ⟨hk_b62, hf⟩ := grd_e hf
          refine v_getR C 9 4 hb62 rfl nin_9 (ns_kd_lt hk_a0 (by decide)) hk_a0 (by decide) (by decide) rfl 20 tw_979 rfl 123 rfl (by decide +kernel) ?_
          refine v_iload_n C 1 1 rfl 124 rfl (by decide +kernel) ?_
          refine v_dup2_11 C rfl rfl 125 rfl (by decide +kernel) ?_
          obtain ⟨hi63, hf⟩ := grd_e hf
          refine v_iald C (ns_kd_lt hk_b62 (by decide)) hk_b62 hi63 126 rfl (by decide +kernel) ?_
          refine v_iconst C (1) (1) (by decide) 127 rfl (by decide +kernel) ?_
          refine v_ior C 128 rfl (by decide +kernel) ?_
          obtain ⟨hi64, hf⟩ := grd_e hf
          obtain ⟨σ65, hσ65, hf⟩ := bnd_e hf
          refine v_iast C hσ65 (ns_kd_lt hk_b62 (by decide)) hk_b62 hi64 129 rfl (by decide +kernel) ?_
          refine v_aload_n C 0 0 rfl 130 rfl (by decide +kernel) ?_
          obtain ⟨b66, hb66, hf⟩ := drf_e hf
          obtain ⟨hk_b66, hf⟩ := grd_e hf
          refine v_getR C 9 4 hb66 rfl nin_9 (ns_kd_lt hk_a0 (by decide)) hk_a0 (by decide) (by decide) rfl 20 tw_979 rfl 133 rfl (by decide +kernel) ?_
          refine v_iload_n C 2 2 rfl 134 rfl (by decide +kernel) ?_
          refine v_dup2_11 C rfl rfl 135 rfl (by decide +kernel) ?_
          obtain ⟨hi67, hf⟩ := grd_e hf
          refine v_iald C (ns_kd_lt hk_b66 (by decide)) hk_b66 hi67 136 rfl (by decide +kernel) ?_
          refine v_iconst C (1) (1) (by decide) 137 rfl (by decide +kernel) ?_
          refine v_ior C 138 rfl (by decide +kernel) ?_
          obtain ⟨hi68, hf⟩ := grd_e hf
          obtain ⟨σ69, hσ69, hf⟩ := bnd_e hf
          refine v_iast C hσ69 (ns_kd_lt hk_b66 (by decide)) hk_b66 hi68 139 rfl (by decide +kernel) ?_
          refine v_aload_n C 0 0 rfl 140 rfl (by decide +kernel) ?_
          obtain ⟨r71, σ70, hcr71, hf⟩ := cl2_e hf
          refine v_cV C 9 rfl (ns_kd_lt hk_a0 (by decide)) hk_a0 (by decide) [] [] (c_M_noneFalls G l σ69 a0 hcr71) 240 0 tw_1344 tw_1341 tw_1343 ts_103 tw_10 hd_M_noneFalls rfl ⟨(Nat.le_of_ble_eq_true rfl), (Nat.le_of_ble_eq_true rfl)⟩ ⟨(Nat.le_of_ble_eq_true rfl), (Nat.le_of_ble_eq_true rfl)⟩ (Nat.le_of_ble_eq_true rfl) rfl 143 rfl (by decide +kernel) [.int r71] rfl ?_
          refine v_istore_n C 3 [(3, .int r71), (0, .ref (G.1 + a0)), (1, .int x1), (2, .int x2)] (by decide) rfl 144 rfl (by decide +kernel) ?_
          refine v_aload_n C 0 1 rfl 145 rfl (by decide +kernel) ?_
          obtain ⟨b72, hb72, hf⟩ := drf_e hf
          obtain ⟨hk_b72, hf⟩ := grd_e hf
          refine v_getR C 9 4 hb72 rfl nin_9 (ns_kd_lt hk_a0 (by decide)) hk_a0 (by decide) (by decide) rfl 20 tw_979 rfl 148 rfl (by decide +kernel) ?_
          refine v_iload_n C 1 2 rfl 149 rfl (by decide +kernel) ?_
          refine v_dup2_11 C rfl rfl 150 rfl (by decide +kernel) ?_
          obtain ⟨hi73, hf⟩ := grd_e hf
          refine v_iald C (ns_kd_lt hk_b72 (by decide)) hk_b72 hi73 151 rfl (by decide +kernel) ?_
          refine v_bipush C (-2) (-2) (by decide) 153 rfl (by decide +kernel) ?_
          refine v_iand C 154 rfl (by decide +kernel) ?_
          obtain ⟨hi74, hf⟩ := grd_e hf
          obtain ⟨σ75, hσ75, hf⟩ := bnd_e hf
          refine v_iast C hσ75 (ns_kd_lt hk_b72 (by decide)) hk_b72 hi74 155 rfl (by decide +kernel) ?_
          refine v_aload_n C 0 1 rfl 156 rfl (by decide +kernel) ?_
          obtain ⟨b76, hb76, hf⟩ := drf_e hf
          obtain ⟨hk_b76, hf⟩ := grd_e hf
          refine v_getR C 9 4 hb76 rfl nin_9 (ns_kd_lt hk_a0 (by decide)) hk_a0 (by decide) (by decide) rfl 20 tw_979 rfl 159 rfl (by decide +kernel) ?_
          refine v_iload_n C 2 3 rfl 160 rfl (by decide +kernel) ?_
          refine v_dup2_11 C rfl rfl 161 rfl (by decide +kernel) ?_
          obtain ⟨hi77, hf⟩ := grd_e hf
          refine v_iald C (ns_kd_lt hk_b76 (by decide)) hk_b76 hi77 162 rfl (by decide +kernel) ?_
          refine v_bipush C (-2) (-2) (by decide) 164 rfl (by decide +kernel) ?_
          refine v_iand C 165 rfl (by decide +kernel) ?_
          obtain ⟨hi78, hf⟩ := grd_e hf
          obtain ⟨σ79, hσ79, hf⟩ := bnd_e hf
          refine v_iast C hσ79 (ns_kd_lt hk_b76 (by decide)) hk_b76 hi78 166 rfl (by decide +kernel) ?_
          refine v_iload_n C 3 0 rfl 167 rfl (by decide +kernel) ?_
          refine v_if_eq C 181 170 rfl (by decide +kernel) (fun h80 => ?_) (fun h80 => ?_)
          · have hf := ite2_t hf h80
            obtain ⟨z81, hz81, hf⟩ := bnd_e hf
            refine v_iinc C 2 (1) 3 z81 rfl (by rw [hz81]; rfl) [(2, .int z81), (3, .int r71), (0, .ref (G.1 + a0)), (1, .int x1)] (by decide) rfl 184 rfl (by decide +kernel) ?_
            refine v_goto C 90 (by decide +kernel) ?_
            refine v_sub [2, 3, 0] rfl ?_
            exact ih σ79 a0 x1 z81 hk_a0 hf
          · have hf := ite2_f hf h80
            refine v_sipush C (20000) (20000) (by decide) 173 rfl (by decide +kernel) ?_
            refine v_bipush C (100) (100) (by decide) 175 rfl (by decide +kernel) ?_
            refine v_iload_n C 1 2 rfl 176 rfl (by decide +kernel) ?_
            refine v_imul C 177 rfl (by decide +kernel) ?_
            refine v_iadd C 178 rfl (by decide +kernel) ?_
            refine v_iload_n C 2 3 rfl 179 rfl (by decide +kernel) ?_
            refine v_iadd C 180 rfl (by decide +kernel) ?_
            obtain ⟨rfl, rfl⟩ := ret_e hf
            exact v_iret C hr (by decide +kernel)
        · have hf := ite2_f hf h61
          refine v_goto C 181 (by decide +kernel) ?_
          obtain ⟨z82, hz82, hf⟩ := bnd_e hf
          refine v_iinc C 2 (1) 2 z82 rfl (by rw [hz82]; rfl) [(2, .int z82), (0, .ref (G.1 + a0)), (1, .int x1)] (by decide) rfl 184 rfl (by decide +kernel) ?_
          refine v_goto C 90 (by decide +kernel) ?_
          refine v_sub [1, 2, 0] rfl ?_
          exact ih σ59 a0 x1 z82 hk_a0 hf
theorem t_M_newStones_78 (G : ns_G) (l : Launch) {p : Program} {e : Env} {s : State} {m : MethodId} {args : Array Value} {below : List Frame} {meth : Method} {c : Code} (C : ns_Cx G p s m args meth c prog_11_method_65_code "NinthStepModel" 4) (hr : meth.sig.returnType = (some .int)) {r : Int32} {σ' : ns_St}  : ∀ (f : Nat) (σ : ns_St) (a0 : Nat) (x1 : Int32) (hk_a0 : ns_kd a0 = 9), g_M_newStones_78 f σ a0 x1 = some (r, σ') → VV G p l e { frames := 5, cells := 0, slots := 0, locals := 111 } s m args below meth c 4 0 0 (MQ below (ns_Qc G (some (.int r)) ns_N σ') args s 0 0 (ns_A G)) ns_N σ 78 [(0, .ref (G.1 + a0)), (1, .int x1)] [] := by
  intro f
  induction f with
  | zero =>
    intro σ a0 x1 hk_a0 hf
    cases hf
  | succ f ih =>
    intro σ a0 x1 hk_a0 hf
    rw [g_M_newStones_78] at hf
    refine v_iload_n C 1 1 rfl 79 rfl (by decide +kernel) ?_
    refine v_aload_n C 0 0 rfl 80 rfl (by decide +kernel) ?_
    refine v_getI C 9 3 rfl nin_9 (ns_kd_lt hk_a0 (by decide)) hk_a0 (by decide) (by decide) rfl 59 tw_978 rfl 83 rfl (by decide +kernel) ?_
    refine v_icmp_gt C 193 86 rfl (by decide +kernel) (fun h83 => ?_) (fun h83 => ?_)
    · have hf := ite2_t hf h83
      refine v_iconst C (-1) (-1) (by decide) 194 rfl (by decide +kernel) ?_
      obtain ⟨rfl, rfl⟩ := ret_e hf
      exact v_iret C hr (by decide +kernel)
    · have hf := ite2_f hf h83
      refine v_iload_n C 1 1 rfl 87 rfl (by decide +kernel) ?_
      refine v_iconst C (1) (1) (by decide) 88 rfl (by decide +kernel) ?_
      refine v_iadd C 89 rfl (by decide +kernel) ?_
      obtain ⟨z84, hz84, hf⟩ := bnd_e hf
      refine v_nmI hz84 ?_
      refine v_istore_n C 2 [(2, .int z84), (0, .ref (G.1 + a0)), (1, .int x1)] (by decide) rfl 90 rfl (by decide +kernel) ?_
      refine v_sub [1, 2, 0] rfl ?_
      exact t_M_newStones_90 G l C hr ih ns_F σ a0 x1 z84 hk_a0 hf
theorem t_M_newStones_11 (G : ns_G) (l : Launch) {p : Program} {e : Env} {s : State} {m : MethodId} {args : Array Value} {below : List Frame} {meth : Method} {c : Code} (C : ns_Cx G p s m args meth c prog_11_method_65_code "NinthStepModel" 4) (hr : meth.sig.returnType = (some .int)) {r : Int32} {σ' : ns_St}  : ∀ (f : Nat) (σ : ns_St) (a0 : Nat) (x1 : Int32) (hk_a0 : ns_kd a0 = 9), g_M_newStones_11 f σ a0 x1 = some (r, σ') → VV G p l e { frames := 5, cells := 0, slots := 0, locals := 111 } s m args below meth c 4 0 0 (MQ below (ns_Qc G (some (.int r)) ns_N σ') args s 0 0 (ns_A G)) ns_N σ 11 [(0, .ref (G.1 + a0)), (1, .int x1)] [] := by
  intro f
  induction f with
  | zero =>
    intro σ a0 x1 hk_a0 hf
    cases hf
  | succ f ih =>
    intro σ a0 x1 hk_a0 hf
    rw [g_M_newStones_11] at hf
    refine v_iload_n C 1 1 rfl 12 rfl (by decide +kernel) ?_
    refine v_aload_n C 0 0 rfl 13 rfl (by decide +kernel) ?_
    refine v_getI C 9 3 rfl nin_9 (ns_kd_lt hk_a0 (by decide)) hk_a0 (by decide) (by decide) rfl 59 tw_978 rfl 16 rfl (by decide +kernel) ?_
    refine v_icmp_gt C 76 19 rfl (by decide +kernel) (fun h85 => ?_) (fun h85 => ?_)
    · have hf := ite2_t hf h85
      refine v_iconst C (1) (1) (by decide) 77 rfl (by decide +kernel) ?_
      refine v_istore_n C 1 [(1, .int (1 : Int32)), (0, .ref (G.1 + a0))] (by decide) rfl 78 rfl (by decide +kernel) ?_
      refine v_sub [1, 0] rfl ?_
      exact t_M_newStones_78 G l C hr  ns_F σ a0 (1 : Int32) hk_a0 hf
    · have hf := ite2_f hf h85
      refine v_aload_n C 0 0 rfl 20 rfl (by decide +kernel) ?_
      refine v_iload_n C 1 1 rfl 21 rfl (by decide +kernel) ?_
      refine v_iconst C (1) (1) (by decide) 22 rfl (by decide +kernel) ?_
      obtain ⟨r87, σ86, hcr87, hf⟩ := cl2_e hf
      refine v_cV C 9 rfl (ns_kd_lt hk_a0 (by decide)) hk_a0 (by decide) [.int x1, .int (1 : Int32)] [] (c_M_isThere G l σ a0 x1 (1 : Int32) hcr87) 87 2 tw_1130 tw_1127 tw_1129 ts_79 tw_10 hd_M_isThere rfl ⟨(Nat.le_of_ble_eq_true rfl), (Nat.le_of_ble_eq_true rfl)⟩ ⟨(Nat.le_of_ble_eq_true rfl), (Nat.le_of_ble_eq_true rfl)⟩ (Nat.le_of_ble_eq_true rfl) rfl 25 rfl (by decide +kernel) [.int r87] rfl ?_
      refine v_if_eq C 31 28 rfl (by decide +kernel) (fun h88 => ?_) (fun h88 => ?_)
      · have hf := ite2_t hf h88
        refine v_aload_n C 0 0 rfl 32 rfl (by decide +kernel) ?_
        obtain ⟨b89, hb89, hf⟩ := drf_e hf
        obtain ⟨hk_b89, hf⟩ := grd_e hf
        refine v_getR C 9 4 hb89 rfl nin_9 (ns_kd_lt hk_a0 (by decide)) hk_a0 (by decide) (by decide) rfl 20 tw_979 rfl 35 rfl (by decide +kernel) ?_
        refine v_iload_n C 1 1 rfl 36 rfl (by decide +kernel) ?_
        refine v_dup2_11 C rfl rfl 37 rfl (by decide +kernel) ?_
        obtain ⟨hi90, hf⟩ := grd_e hf
        refine v_iald C (ns_kd_lt hk_b89 (by decide)) hk_b89 hi90 38 rfl (by decide +kernel) ?_
        refine v_iconst C (1) (1) (by decide) 39 rfl (by decide +kernel) ?_
        refine v_ior C 40 rfl (by decide +kernel) ?_
        obtain ⟨hi91, hf⟩ := grd_e hf
        obtain ⟨σ92, hσ92, hf⟩ := bnd_e hf
        refine v_iast C hσ92 (ns_kd_lt hk_b89 (by decide)) hk_b89 hi91 41 rfl (by decide +kernel) ?_
        refine v_aload_n C 0 0 rfl 42 rfl (by decide +kernel) ?_
        obtain ⟨r94, σ93, hcr94, hf⟩ := cl2_e hf
        refine v_cV C 9 rfl (ns_kd_lt hk_a0 (by decide)) hk_a0 (by decide) [] [] (c_M_noneFalls G l σ92 a0 hcr94) 240 0 tw_1344 tw_1341 tw_1343 ts_103 tw_10 hd_M_noneFalls rfl ⟨(Nat.le_of_ble_eq_true rfl), (Nat.le_of_ble_eq_true rfl)⟩ ⟨(Nat.le_of_ble_eq_true rfl), (Nat.le_of_ble_eq_true rfl)⟩ (Nat.le_of_ble_eq_true rfl) rfl 45 rfl (by decide +kernel) [.int r94] rfl ?_
        refine v_istore_n C 2 [(2, .int r94), (0, .ref (G.1 + a0)), (1, .int x1)] (by decide) rfl 46 rfl (by decide +kernel) ?_
        refine v_aload_n C 0 1 rfl 47 rfl (by decide +kernel) ?_
        obtain ⟨b95, hb95, hf⟩ := drf_e hf
        obtain ⟨hk_b95, hf⟩ := grd_e hf
        refine v_getR C 9 4 hb95 rfl nin_9 (ns_kd_lt hk_a0 (by decide)) hk_a0 (by decide) (by decide) rfl 20 tw_979 rfl 50 rfl (by decide +kernel) ?_
        refine v_iload_n C 1 2 rfl 51 rfl (by decide +kernel) ?_
        refine v_dup2_11 C rfl rfl 52 rfl (by decide +kernel) ?_
        obtain ⟨hi96, hf⟩ := grd_e hf
        refine v_iald C (ns_kd_lt hk_b95 (by decide)) hk_b95 hi96 53 rfl (by decide +kernel) ?_
        refine v_bipush C (-2) (-2) (by decide) 55 rfl (by decide +kernel) ?_
        refine v_iand C 56 rfl (by decide +kernel) ?_
        obtain ⟨hi97, hf⟩ := grd_e hf
        obtain ⟨σ98, hσ98, hf⟩ := bnd_e hf
        refine v_iast C hσ98 (ns_kd_lt hk_b95 (by decide)) hk_b95 hi97 57 rfl (by decide +kernel) ?_
        refine v_iload_n C 2 0 rfl 58 rfl (by decide +kernel) ?_
        refine v_if_eq C 70 61 rfl (by decide +kernel) (fun h99 => ?_) (fun h99 => ?_)
        · have hf := ite2_t hf h99
          obtain ⟨z100, hz100, hf⟩ := bnd_e hf
          refine v_iinc C 1 (1) 2 z100 rfl (by rw [hz100]; rfl) [(1, .int z100), (2, .int r94), (0, .ref (G.1 + a0))] (by decide) rfl 73 rfl (by decide +kernel) ?_
          refine v_goto C 11 (by decide +kernel) ?_
          refine v_sub [2, 0] rfl ?_
          exact ih σ98 a0 z100 hk_a0 hf
        · have hf := ite2_f hf h99
          refine v_sipush C (10000) (10000) (by decide) 64 rfl (by decide +kernel) ?_
          refine v_bipush C (100) (100) (by decide) 66 rfl (by decide +kernel) ?_
          refine v_iload_n C 1 2 rfl 67 rfl (by decide +kernel) ?_
          refine v_imul C 68 rfl (by decide +kernel) ?_
          refine v_iadd C 69 rfl (by decide +kernel) ?_
          obtain ⟨rfl, rfl⟩ := ret_e hf
          exact v_iret C hr (by decide +kernel)
      · have hf := ite2_f hf h88
        refine v_goto C 70 (by decide +kernel) ?_
        obtain ⟨z101, hz101, hf⟩ := bnd_e hf
        refine v_iinc C 1 (1) 1 z101 rfl (by rw [hz101]; rfl) [(1, .int z101), (0, .ref (G.1 + a0))] (by decide) rfl 73 rfl (by decide +kernel) ?_
        refine v_goto C 11 (by decide +kernel) ?_
        refine v_sub [1, 0] rfl ?_
        exact ih σ86 a0 z101 hk_a0 hf
theorem c_M_newStones (G : ns_G) (l : Launch) (σ : ns_St) (a0 : Nat) {r : Int32} {σ' : ns_St} (hf : g_M_newStones σ a0 = some (r, σ')) : ns_ok G l ⟨"NinthStepModel", "newStones", "()I"⟩ prog_11_method_65_code 4 (some .int) 5 111 0 0 [.ref (G.1 + a0)] ns_N σ (some (.int r)) ns_N σ' := by
  refine v_open (by decide) (Nat.le_of_ble_eq_true rfl) rfl ?_
  intro p e s m below meth c C hr _
  have C : ns_Cx G p s m _ meth c prog_11_method_65_code "NinthStepModel" 4 := C
  unfold g_M_newStones at hf
  obtain ⟨hk_a0, hf⟩ := grd_e hf
  refine v_aload_n C 0 0 rfl 1 rfl (by decide +kernel) ?_
  obtain ⟨r103, σ102, hcr103, hf⟩ := cl2_e hf
  refine v_cV C 9 rfl (ns_kd_lt hk_a0 (by decide)) hk_a0 (by decide) [] [] (c_M_noneFalls G l σ a0 hcr103) 240 0 tw_1344 tw_1341 tw_1343 ts_103 tw_10 hd_M_noneFalls rfl ⟨(Nat.le_of_ble_eq_true rfl), (Nat.le_of_ble_eq_true rfl)⟩ ⟨(Nat.le_of_ble_eq_true rfl), (Nat.le_of_ble_eq_true rfl)⟩ (Nat.le_of_ble_eq_true rfl) rfl 4 rfl (by decide +kernel) [.int r103] rfl ?_
  refine v_if_eq C 9 7 rfl (by decide +kernel) (fun h104 => ?_) (fun h104 => ?_)
  · have hf := ite2_t hf h104
    refine v_iconst C (1) (1) (by decide) 10 rfl (by decide +kernel) ?_
    refine v_istore_n C 1 [(1, .int (1 : Int32)), (0, .ref (G.1 + a0))] (by decide) rfl 11 rfl (by decide +kernel) ?_
    refine v_sub [1, 0] rfl ?_
    exact t_M_newStones_11 G l C hr  ns_F σ102 a0 (1 : Int32) hk_a0 hf
  · have hf := ite2_f hf h104
    refine v_iconst C (0) (0) (by decide) 8 rfl (by decide +kernel) ?_
    obtain ⟨rfl, rfl⟩ := ret_e hf
    exact v_iret C hr (by decide +kernel)
theorem hd_M_newStones : (⟨"NinthStepModel", "newStones", "()I"⟩ : MethodName).cls = "NinthStepModel" ∧ (⟨"NinthStepModel", "newStones", "()I"⟩ : MethodName).cls ≠ "java/lang/invoke/MethodHandle" ∧ (⟨"NinthStepModel", "newStones", "()I"⟩ : MethodName).cls ≠ "java/lang/invoke/VarHandle" ∧ (parseMethodDescriptor (⟨"NinthStepModel", "newStones", "()I"⟩ : MethodName).desc).map (fun d => d.parameters.length) = some 0 := by decide +kernel
def g_M_stones (σ : ns_St) (a0 : Nat) (x1 : Int32) : Option (Int32 × ns_St) := grd (ns_kd a0 = 9) <| cl2 (g_M_within σ x1 (-1 : Int32) (1 : Int32)) fun r16 σ15 => ite2 (r16 = 0) (cl2 (g_M_no σ15 a0 (-2 : Int32)) fun r28 σ27 => some (r28, σ27)) (cl2 (g_M_newStones σ15 a0) fun r19 σ18 => ite2 (r19 = (-1 : Int32)) (some ((-1 : Int32), σ18)) (bnd (r19 / (10000 : Int32)) fun z21 => ite2 (x1 = (-1 : Int32)) (some (z21, σ18)) (ite2 (x1 < z21) (ite2 (x1 = 0) (some (((r19 / (100 : Int32)) - (r19 / (100 : Int32)) / (100 : Int32) * (100 : Int32)), σ18)) (some ((r19 - r19 / (100 : Int32) * (100 : Int32)), σ18))) (cl2 (g_M_no σ18 a0 (-5 : Int32)) fun r26 σ25 => some (r26, σ25)))))
theorem c_M_stones (G : ns_G) (l : Launch) (σ : ns_St) (a0 : Nat) (x1 : Int32) {r : Int32} {σ' : ns_St} (hf : g_M_stones σ a0 x1 = some (r, σ')) : ns_ok G l ⟨"NinthStepModel", "stones", "(I)I"⟩ prog_11_method_66_code 4 (some .int) 6 134 0 0 [.ref (G.1 + a0), .int x1] ns_N σ (some (.int r)) ns_N σ' := by
  refine v_open (by decide) (Nat.le_of_ble_eq_true rfl) rfl ?_
  intro p e s m below meth c C hr _
  have C : ns_Cx G p s m _ meth c prog_11_method_66_code "NinthStepModel" 4 := C
  unfold g_M_stones at hf
  obtain ⟨hk_a0, hf⟩ := grd_e hf
  refine v_iload_n C 1 1 rfl 1 rfl (by decide +kernel) ?_
  refine v_iconst C (-1) (-1) (by decide) 2 rfl (by decide +kernel) ?_
  refine v_iconst C (1) (1) (by decide) 3 rfl (by decide +kernel) ?_
  obtain ⟨r16, σ15, hcr16, hf⟩ := cl2_e hf
  refine v_cS C [.int x1, .int (-1 : Int32), .int (1 : Int32)] [] (c_M_within G l σ x1 (-1 : Int32) (1 : Int32) hcr16) 69 3 tw_1075 tw_1073 tw_1074 tw_10 hd_M_within rfl ⟨(Nat.le_of_ble_eq_true rfl), (Nat.le_of_ble_eq_true rfl)⟩ ⟨(Nat.le_of_ble_eq_true rfl), (Nat.le_of_ble_eq_true rfl)⟩ (Nat.le_of_ble_eq_true rfl) rfl 6 rfl (by decide +kernel) [.int r16] rfl ?_
  refine v_if_ne C 16 9 rfl (by decide +kernel) (fun h17 => ?_) (fun h17 => ?_)
  · have hf := ite2_f hf h17
    refine v_aload_n C 0 0 rfl 17 rfl (by decide +kernel) ?_
    obtain ⟨r19, σ18, hcr19, hf⟩ := cl2_e hf
    refine v_cV C 9 rfl (ns_kd_lt hk_a0 (by decide)) hk_a0 (by decide) [] [] (c_M_newStones G l σ15 a0 hcr19) 243 0 tw_1340 tw_1337 tw_1339 ts_102 tw_10 hd_M_newStones rfl ⟨(Nat.le_of_ble_eq_true rfl), (Nat.le_of_ble_eq_true rfl)⟩ ⟨(Nat.le_of_ble_eq_true rfl), (Nat.le_of_ble_eq_true rfl)⟩ (Nat.le_of_ble_eq_true rfl) rfl 20 rfl (by decide +kernel) [.int r19] rfl ?_
    refine v_istore_n C 2 [(2, .int r19), (0, .ref (G.1 + a0)), (1, .int x1)] (by decide) rfl 21 rfl (by decide +kernel) ?_
    refine v_iload_n C 2 0 rfl 22 rfl (by decide +kernel) ?_
    refine v_iconst C (-1) (-1) (by decide) 23 rfl (by decide +kernel) ?_
    refine v_icmp_ne C 28 26 rfl (by decide +kernel) (fun h20 => ?_) (fun h20 => ?_)
    · have hf := ite2_f hf h20
      refine v_iload_n C 2 0 rfl 29 rfl (by decide +kernel) ?_
      refine v_sipush C (10000) (10000) (by decide) 32 rfl (by decide +kernel) ?_
      refine v_idiv C (by decide) 33 rfl (by decide +kernel) ?_
      obtain ⟨z21, hz21, hf⟩ := bnd_e hf
      refine v_nmI hz21 ?_
      refine v_istore_n C 3 [(3, .int z21), (2, .int r19), (0, .ref (G.1 + a0)), (1, .int x1)] (by decide) rfl 34 rfl (by decide +kernel) ?_
      refine v_iload_n C 1 3 rfl 35 rfl (by decide +kernel) ?_
      refine v_iconst C (-1) (-1) (by decide) 36 rfl (by decide +kernel) ?_
      refine v_icmp_ne C 41 39 rfl (by decide +kernel) (fun h22 => ?_) (fun h22 => ?_)
      · have hf := ite2_f hf h22
        refine v_iload_n C 1 3 rfl 42 rfl (by decide +kernel) ?_
        refine v_iload_n C 3 0 rfl 43 rfl (by decide +kernel) ?_
        refine v_icmp_lt C 53 46 rfl (by decide +kernel) (fun h23 => ?_) (fun h23 => ?_)
        · have hf := ite2_t hf h23
          refine v_iload_n C 1 3 rfl 54 rfl (by decide +kernel) ?_
          refine v_if_ne C 67 57 rfl (by decide +kernel) (fun h24 => ?_) (fun h24 => ?_)
          · have hf := ite2_f hf h24
            refine v_iload_n C 2 1 rfl 68 rfl (by decide +kernel) ?_
            refine v_bipush C (100) (100) (by decide) 70 rfl (by decide +kernel) ?_
            refine v_irem C (by decide) 71 rfl (by decide +kernel) ?_
            obtain ⟨rfl, rfl⟩ := ret_e hf
            exact v_iret C hr (by decide +kernel)
          · have hf := ite2_t hf h24
            refine v_iload_n C 2 1 rfl 58 rfl (by decide +kernel) ?_
            refine v_bipush C (100) (100) (by decide) 60 rfl (by decide +kernel) ?_
            refine v_idiv C (by decide) 61 rfl (by decide +kernel) ?_
            refine v_bipush C (100) (100) (by decide) 63 rfl (by decide +kernel) ?_
            refine v_irem C (by decide) 64 rfl (by decide +kernel) ?_
            refine v_goto C 71 (by decide +kernel) ?_
            obtain ⟨rfl, rfl⟩ := ret_e hf
            exact v_iret C hr (by decide +kernel)
        · have hf := ite2_f hf h23
          refine v_aload_n C 0 2 rfl 47 rfl (by decide +kernel) ?_
          refine v_bipush C (-5) (-5) (by decide) 49 rfl (by decide +kernel) ?_
          obtain ⟨r26, σ25, hcr26, hf⟩ := cl2_e hf
          refine v_cV C 9 rfl (ns_kd_lt hk_a0 (by decide)) hk_a0 (by decide) [.int (-5 : Int32)] [] (c_M_no G l σ18 a0 (-5 : Int32) hcr26) 73 1 tw_1079 tw_1076 tw_1078 ts_73 tw_10 hd_M_no rfl ⟨(Nat.le_of_ble_eq_true rfl), (Nat.le_of_ble_eq_true rfl)⟩ ⟨(Nat.le_of_ble_eq_true rfl), (Nat.le_of_ble_eq_true rfl)⟩ (Nat.le_of_ble_eq_true rfl) rfl 52 rfl (by decide +kernel) [.int r26] rfl ?_
          obtain ⟨rfl, rfl⟩ := ret_e hf
          exact v_iret C hr (by decide +kernel)
      · have hf := ite2_t hf h22
        refine v_iload_n C 3 0 rfl 40 rfl (by decide +kernel) ?_
        obtain ⟨rfl, rfl⟩ := ret_e hf
        exact v_iret C hr (by decide +kernel)
    · have hf := ite2_t hf h20
      refine v_iconst C (-1) (-1) (by decide) 27 rfl (by decide +kernel) ?_
      obtain ⟨rfl, rfl⟩ := ret_e hf
      exact v_iret C hr (by decide +kernel)
  · have hf := ite2_t hf h17
    refine v_aload_n C 0 0 rfl 10 rfl (by decide +kernel) ?_
    refine v_bipush C (-2) (-2) (by decide) 12 rfl (by decide +kernel) ?_
    obtain ⟨r28, σ27, hcr28, hf⟩ := cl2_e hf
    refine v_cV C 9 rfl (ns_kd_lt hk_a0 (by decide)) hk_a0 (by decide) [.int (-2 : Int32)] [] (c_M_no G l σ15 a0 (-2 : Int32) hcr28) 73 1 tw_1079 tw_1076 tw_1078 ts_73 tw_10 hd_M_no rfl ⟨(Nat.le_of_ble_eq_true rfl), (Nat.le_of_ble_eq_true rfl)⟩ ⟨(Nat.le_of_ble_eq_true rfl), (Nat.le_of_ble_eq_true rfl)⟩ (Nat.le_of_ble_eq_true rfl) rfl 15 rfl (by decide +kernel) [.int r28] rfl ?_
    obtain ⟨rfl, rfl⟩ := ret_e hf
    exact v_iret C hr (by decide +kernel)
theorem hd_M_stones : (⟨"NinthStepModel", "stones", "(I)I"⟩ : MethodName).cls = "NinthStepModel" ∧ (⟨"NinthStepModel", "stones", "(I)I"⟩ : MethodName).cls ≠ "java/lang/invoke/MethodHandle" ∧ (⟨"NinthStepModel", "stones", "(I)I"⟩ : MethodName).cls ≠ "java/lang/invoke/VarHandle" ∧ (parseMethodDescriptor (⟨"NinthStepModel", "stones", "(I)I"⟩ : MethodName).desc).map (fun d => d.parameters.length) = some 1 := by decide +kernel
def g_M_numbers_276 (kh160 : ns_St → Nat → Int32 → Int32 → Int32 → Int32 → Int32 → Int32 → Option (Int32 × ns_St)) (kh170 : ns_St → Nat → Int32 → Int32 → Int32 → Int32 → Int32 → Int32 → Int32 → Option (Int32 × ns_St)) (σ : ns_St) (a0 : Nat) (x1 : Int32) (x2 : Int32) (x3 : Int32) (x5 : Int32) (x6 : Int32) (x7 : Int32) (x8 : Int32) (x10 : Int32) : Option (Int32 × ns_St) := ite2 (x10 = 0) (bnd (x8 + 1) fun z71 => kh170 σ a0 x1 x2 x3 x5 x6 x7 z71) (bnd (x5 + 1) fun z68 => bnd (x6 ||| ((1 : Int32) <<< (x7 &&& 31))) fun z69 => bnd (x8 + 1) fun z70 => kh170 σ a0 x1 x2 x3 z68 z69 x7 z70)
def g_M_numbers_263 (kh160 : ns_St → Nat → Int32 → Int32 → Int32 → Int32 → Int32 → Int32 → Option (Int32 × ns_St)) (kh170 : ns_St → Nat → Int32 → Int32 → Int32 → Int32 → Int32 → Int32 → Int32 → Option (Int32 × ns_St)) (kh205 : ns_St → Nat → Int32 → Int32 → Int32 → Int32 → Int32 → Int32 → Int32 → Int32 → Int32 → Option (Int32 × ns_St)) (σ : ns_St) (s0 : Int32) (a0 : Nat) (x1 : Int32) (x2 : Int32) (x3 : Int32) (x5 : Int32) (x6 : Int32) (x7 : Int32) (x8 : Int32) (x9 : Int32) (x12 : Int32) : Option (Int32 × ns_St) := ite2 (x12 = 0) (kh205 σ a0 x1 x2 x3 x5 x6 x7 x8 x9 s0) (bnd (x9 + 1) fun z73 => kh205 σ a0 x1 x2 x3 x5 x6 x7 x8 z73 s0)
def g_M_numbers_249 (kh160 : ns_St → Nat → Int32 → Int32 → Int32 → Int32 → Int32 → Int32 → Option (Int32 × ns_St)) (kh170 : ns_St → Nat → Int32 → Int32 → Int32 → Int32 → Int32 → Int32 → Int32 → Option (Int32 × ns_St)) (kh205 : ns_St → Nat → Int32 → Int32 → Int32 → Int32 → Int32 → Int32 → Int32 → Int32 → Int32 → Option (Int32 × ns_St)) (σ : ns_St) (s0 : Int32) (a0 : Nat) (x1 : Int32) (x2 : Int32) (x3 : Int32) (x5 : Int32) (x6 : Int32) (x7 : Int32) (x8 : Int32) (x9 : Int32) (x11 : Int32) : Option (Int32 × ns_St) := ite2 (x11 = s0) (g_M_numbers_263 kh160 kh170 kh205 σ (1 : Int32) a0 x1 x2 x3 x5 x6 x7 x8 x9 s0) (g_M_numbers_263 kh160 kh170 kh205 σ (0 : Int32) a0 x1 x2 x3 x5 x6 x7 x8 x9 s0)
def g_M_numbers_205 (kh160 : ns_St → Nat → Int32 → Int32 → Int32 → Int32 → Int32 → Int32 → Option (Int32 × ns_St)) (kh170 : ns_St → Nat → Int32 → Int32 → Int32 → Int32 → Int32 → Int32 → Int32 → Option (Int32 × ns_St)) : Nat → ns_St → Nat → Int32 → Int32 → Int32 → Int32 → Int32 → Int32 → Int32 → Int32 → Int32 → Option (Int32 × ns_St)
  | 0, _, _, _, _, _, _, _, _, _, _, _ => none
  | f + 1, σ, a0, x1, x2, x3, x5, x6, x7, x8, x9, x10 => ite2 (x10 = 0) (g_M_numbers_276 kh160 kh170 σ a0 x1 x2 x3 x5 x6 x7 x8 x10) (ite2 (x2 ≤ x9) (g_M_numbers_276 kh160 kh170 σ a0 x1 x2 x3 x5 x6 x7 x8 x10) (cl2 (g_M_stepped σ a0 (0 : Int32)) fun r78 σ77 => drf (σ77.2.2 a0 2) fun b79 => grd (ns_kd b79 = 11) <| grd (ns_in (((40 : Int32) * x1) + x9) (ns_ln b79)) <| ite2 ((lg_cmp (σ77.2.1 b79 (ns_ix (((40 : Int32) * x1) + x9))) ((σ77.1 a0 27).toInt64)) = 0) (g_M_numbers_249 kh160 kh170 (g_M_numbers_205 kh160 kh170 f) σ77 (1 : Int32) a0 x1 x2 x3 x5 x6 x7 x8 x9 r78) (g_M_numbers_249 kh160 kh170 (g_M_numbers_205 kh160 kh170 f) σ77 (0 : Int32) a0 x1 x2 x3 x5 x6 x7 x8 x9 r78)))
def g_M_numbers_170 (kh160 : ns_St → Nat → Int32 → Int32 → Int32 → Int32 → Int32 → Int32 → Option (Int32 × ns_St)) : Nat → ns_St → Nat → Int32 → Int32 → Int32 → Int32 → Int32 → Int32 → Int32 → Option (Int32 × ns_St)
  | 0, _, _, _, _, _, _, _, _, _ => none
  | f + 1, σ, a0, x1, x2, x3, x5, x6, x7, x8 => ite2 (x7 ≤ x8) (bnd (x7 + 1) fun z83 => kh160 σ a0 x1 x2 x3 x5 x6 z83) (bnd (ns_pI σ a0 25 (0 : Int32)) fun σ84 => bnd (ns_pI σ84 a0 26 x7) fun σ85 => bnd (ns_pI σ85 a0 27 (0 : Int32)) fun σ86 => bnd (ns_pI σ86 a0 28 x8) fun σ87 => g_M_numbers_205 kh160 (g_M_numbers_170 kh160 f) ns_F σ87 a0 x1 x2 x3 x5 x6 x7 x8 (0 : Int32) (1 : Int32))
def g_M_numbers_160  : Nat → ns_St → Nat → Int32 → Int32 → Int32 → Int32 → Int32 → Int32 → Option (Int32 × ns_St)
  | 0, _, _, _, _, _, _, _, _ => none
  | f + 1, σ, a0, x1, x2, x3, x5, x6, x7 => ite2 ((14 : Int32) ≤ x7) (ite2 (x3 = 0) (some (x5, σ)) (some (x6, σ))) (g_M_numbers_170 (g_M_numbers_160 f) ns_F σ a0 x1 x2 x3 x5 x6 x7 (0 : Int32))
def g_M_numbers_75  : Nat → ns_St → Nat → Int32 → Int32 → Int32 → Int32 → Option (Int32 × ns_St)
  | 0, _, _, _, _, _, _ => none
  | f + 1, σ, a0, x1, x2, x3, x5 => ite2 (x2 ≤ x5) (g_M_numbers_160 ns_F σ a0 x1 x2 x3 (0 : Int32) (0 : Int32) (2 : Int32)) (drf (σ.2.2 a0 2) fun b91 => grd (ns_kd b91 = 11) <| grd (ns_in (((40 : Int32) * x1) + x5) (ns_ln b91)) <| bnd (σ.2.1 b91 (ns_ix (((40 : Int32) * x1) + x5))) fun z93 => ite2 ((lg_cmp z93 (1 : Int64)) < 0) (cl2 (g_M_no σ a0 (-2 : Int32)) fun r96 σ95 => some (r96, σ95)) (ite2 (0 < (lg_cmp z93 ((σ.1 a0 3).toInt64))) (cl2 (g_M_no σ a0 (-2 : Int32)) fun r99 σ98 => some (r99, σ98)) (ite2 (x5 ≤ 0) (bnd (x5 + 1) fun z101 => (g_M_numbers_75 f) σ a0 x1 x2 x3 z101) (drf (σ.2.2 a0 2) fun b102 => grd (ns_kd b102 = 11) <| grd (ns_in ((((40 : Int32) * x1) + x5) - (1 : Int32)) (ns_ln b102)) <| ite2 (0 < (lg_cmp z93 (σ.2.1 b102 (ns_ix ((((40 : Int32) * x1) + x5) - (1 : Int32)))))) (bnd (x5 + 1) fun z105 => (g_M_numbers_75 f) σ a0 x1 x2 x3 z105) (cl2 (g_M_no σ a0 (-2 : Int32)) fun r107 σ106 => some (r107, σ106))))))
def g_M_numbers (σ : ns_St) (a0 : Nat) (x1 : Int32) (x2 : Int32) (x3 : Int32) : Option (Int32 × ns_St) := grd (ns_kd a0 = 9) <| cl2 (g_M_within σ x1 (0 : Int32) (7 : Int32)) fun r109 σ108 => ite2 (r109 = 0) (cl2 (g_M_no σ108 a0 (-2 : Int32)) fun r112 σ111 => some (r112, σ111)) (cl2 (g_M_within σ108 x2 (1 : Int32) (40 : Int32)) fun r114 σ113 => ite2 (r114 = 0) (cl2 (g_M_no σ113 a0 (-2 : Int32)) fun r117 σ116 => some (r117, σ116)) (cl2 (g_M_within σ113 x3 (0 : Int32) (1 : Int32)) fun r119 σ118 => ite2 (r119 = 0) (cl2 (g_M_no σ118 a0 (-2 : Int32)) fun r132 σ131 => some (r132, σ131)) (cl2 (g_M_noRow σ118 a0 x1) fun r122 σ121 => ite2 (0 ≤ r122) (drf (σ121.2.2 a0 1) fun b124 => grd (ns_kd b124 = 10) <| grd (ns_in x1 (ns_ln b124)) <| ite2 (x2 ≤ (σ121.1 b124 (ns_ix x1))) (g_M_numbers_75 ns_F σ121 a0 x1 x2 x3 (0 : Int32)) (cl2 (g_M_no σ121 a0 (-2 : Int32)) fun r128 σ127 => some (r128, σ127))) (cl2 (g_M_no σ121 a0 r122) fun r130 σ129 => some (r130, σ129)))))
theorem t_M_numbers_276 (G : ns_G) (l : Launch) {p : Program} {e : Env} {s : State} {m : MethodId} {args : Array Value} {below : List Frame} {meth : Method} {c : Code} (C : ns_Cx G p s m args meth c prog_11_method_67_code "NinthStepModel" 13) (hr : meth.sig.returnType = (some .int)) {r : Int32} {σ' : ns_St} {kh160 : ns_St → Nat → Int32 → Int32 → Int32 → Int32 → Int32 → Int32 → Option (Int32 × ns_St)} {kh170 : ns_St → Nat → Int32 → Int32 → Int32 → Int32 → Int32 → Int32 → Int32 → Option (Int32 × ns_St)} (hkh160 : ∀ (σ : ns_St) (a0 : Nat) (x1 : Int32) (x2 : Int32) (x3 : Int32) (x5 : Int32) (x6 : Int32) (x7 : Int32), ns_kd a0 = 9 → kh160 σ a0 x1 x2 x3 x5 x6 x7 = some (r, σ') → VV G p l e { frames := 3, cells := 0, slots := 0, locals := 64 } s m args below meth c 13 0 0 (MQ below (ns_Qc G (some (.int r)) ns_N σ') args s 0 0 (ns_A G)) ns_N σ 160 [(0, .ref (G.1 + a0)), (1, .int x1), (2, .int x2), (3, .int x3), (5, .int x5), (6, .int x6), (7, .int x7)] []) (hkh170 : ∀ (σ : ns_St) (a0 : Nat) (x1 : Int32) (x2 : Int32) (x3 : Int32) (x5 : Int32) (x6 : Int32) (x7 : Int32) (x8 : Int32), ns_kd a0 = 9 → kh170 σ a0 x1 x2 x3 x5 x6 x7 x8 = some (r, σ') → VV G p l e { frames := 3, cells := 0, slots := 0, locals := 64 } s m args below meth c 13 0 0 (MQ below (ns_Qc G (some (.int r)) ns_N σ') args s 0 0 (ns_A G)) ns_N σ 170 [(0, .ref (G.1 + a0)), (1, .int x1), (2, .int x2), (3, .int x3), (5, .int x5), (6, .int x6), (7, .int x7), (8, .int x8)] []) (σ : ns_St) (a0 : Nat) (x1 : Int32) (x2 : Int32) (x3 : Int32) (x5 : Int32) (x6 : Int32) (x7 : Int32) (x8 : Int32) (x10 : Int32) (hk_a0 : ns_kd a0 = 9) (hf : g_M_numbers_276 kh160 kh170 σ a0 x1 x2 x3 x5 x6 x7 x8 x10 = some (r, σ')) : VV G p l e { frames := 3, cells := 0, slots := 0, locals := 64 } s m args below meth c 13 0 0 (MQ below (ns_Qc G (some (.int r)) ns_N σ') args s 0 0 (ns_A G)) ns_N σ 276 [(0, .ref (G.1 + a0)), (1, .int x1), (2, .int x2), (3, .int x3), (5, .int x5), (6, .int x6), (7, .int x7), (8, .int x8), (10, .int x10)] [] := by
  unfold g_M_numbers_276 at hf
  refine v_iload C 10 8 rfl 278 rfl (by decide +kernel) ?_
  refine v_if_ne C 284 281 rfl (by decide +kernel) (fun h67 => ?_) (fun h67 => ?_)
  · have hf := ite2_f hf h67
    obtain ⟨z68, hz68, hf⟩ := bnd_e hf
    refine v_iinc C 5 (1) 4 z68 rfl (by rw [hz68]; rfl) [(5, .int z68), (0, .ref (G.1 + a0)), (1, .int x1), (2, .int x2), (3, .int x3), (6, .int x6), (7, .int x7), (8, .int x8), (10, .int x10)] (by decide) rfl 287 rfl (by decide +kernel) ?_
    refine v_iload C 6 5 rfl 289 rfl (by decide +kernel) ?_
    refine v_iconst C (1) (1) (by decide) 290 rfl (by decide +kernel) ?_
    refine v_iload C 7 6 rfl 292 rfl (by decide +kernel) ?_
    refine v_ishl C 293 rfl (by decide +kernel) ?_
    refine v_ior C 294 rfl (by decide +kernel) ?_
    obtain ⟨z69, hz69, hf⟩ := bnd_e hf
    refine v_nmI hz69 ?_
    refine v_istore C 6 [(6, .int z69), (5, .int z68), (0, .ref (G.1 + a0)), (1, .int x1), (2, .int x2), (3, .int x3), (7, .int x7), (8, .int x8), (10, .int x10)] (by decide) rfl 296 rfl (by decide +kernel) ?_
    obtain ⟨z70, hz70, hf⟩ := bnd_e hf
    refine v_iinc C 8 (1) 7 z70 rfl (by rw [hz70]; rfl) [(8, .int z70), (6, .int z69), (5, .int z68), (0, .ref (G.1 + a0)), (1, .int x1), (2, .int x2), (3, .int x3), (7, .int x7), (10, .int x10)] (by decide) rfl 299 rfl (by decide +kernel) ?_
    refine v_goto C 170 (by decide +kernel) ?_
    refine v_sub [3, 4, 5, 6, 2, 1, 7, 0] rfl ?_
    exact hkh170 σ a0 x1 x2 x3 z68 z69 x7 z70 hk_a0 hf
  · have hf := ite2_t hf h67
    refine v_goto C 296 (by decide +kernel) ?_
    obtain ⟨z71, hz71, hf⟩ := bnd_e hf
    refine v_iinc C 8 (1) 7 z71 rfl (by rw [hz71]; rfl) [(8, .int z71), (0, .ref (G.1 + a0)), (1, .int x1), (2, .int x2), (3, .int x3), (5, .int x5), (6, .int x6), (7, .int x7), (10, .int x10)] (by decide) rfl 299 rfl (by decide +kernel) ?_
    refine v_goto C 170 (by decide +kernel) ?_
    refine v_sub [1, 2, 3, 4, 5, 6, 7, 0] rfl ?_
    exact hkh170 σ a0 x1 x2 x3 x5 x6 x7 z71 hk_a0 hf
theorem t_M_numbers_263 (G : ns_G) (l : Launch) {p : Program} {e : Env} {s : State} {m : MethodId} {args : Array Value} {below : List Frame} {meth : Method} {c : Code} (C : ns_Cx G p s m args meth c prog_11_method_67_code "NinthStepModel" 13) (hr : meth.sig.returnType = (some .int)) {r : Int32} {σ' : ns_St} {kh160 : ns_St → Nat → Int32 → Int32 → Int32 → Int32 → Int32 → Int32 → Option (Int32 × ns_St)} {kh170 : ns_St → Nat → Int32 → Int32 → Int32 → Int32 → Int32 → Int32 → Int32 → Option (Int32 × ns_St)} {kh205 : ns_St → Nat → Int32 → Int32 → Int32 → Int32 → Int32 → Int32 → Int32 → Int32 → Int32 → Option (Int32 × ns_St)} (hkh160 : ∀ (σ : ns_St) (a0 : Nat) (x1 : Int32) (x2 : Int32) (x3 : Int32) (x5 : Int32) (x6 : Int32) (x7 : Int32), ns_kd a0 = 9 → kh160 σ a0 x1 x2 x3 x5 x6 x7 = some (r, σ') → VV G p l e { frames := 3, cells := 0, slots := 0, locals := 64 } s m args below meth c 13 0 0 (MQ below (ns_Qc G (some (.int r)) ns_N σ') args s 0 0 (ns_A G)) ns_N σ 160 [(0, .ref (G.1 + a0)), (1, .int x1), (2, .int x2), (3, .int x3), (5, .int x5), (6, .int x6), (7, .int x7)] []) (hkh170 : ∀ (σ : ns_St) (a0 : Nat) (x1 : Int32) (x2 : Int32) (x3 : Int32) (x5 : Int32) (x6 : Int32) (x7 : Int32) (x8 : Int32), ns_kd a0 = 9 → kh170 σ a0 x1 x2 x3 x5 x6 x7 x8 = some (r, σ') → VV G p l e { frames := 3, cells := 0, slots := 0, locals := 64 } s m args below meth c 13 0 0 (MQ below (ns_Qc G (some (.int r)) ns_N σ') args s 0 0 (ns_A G)) ns_N σ 170 [(0, .ref (G.1 + a0)), (1, .int x1), (2, .int x2), (3, .int x3), (5, .int x5), (6, .int x6), (7, .int x7), (8, .int x8)] []) (hkh205 : ∀ (σ : ns_St) (a0 : Nat) (x1 : Int32) (x2 : Int32) (x3 : Int32) (x5 : Int32) (x6 : Int32) (x7 : Int32) (x8 : Int32) (x9 : Int32) (x10 : Int32), ns_kd a0 = 9 → kh205 σ a0 x1 x2 x3 x5 x6 x7 x8 x9 x10 = some (r, σ') → VV G p l e { frames := 3, cells := 0, slots := 0, locals := 64 } s m args below meth c 13 0 0 (MQ below (ns_Qc G (some (.int r)) ns_N σ') args s 0 0 (ns_A G)) ns_N σ 205 [(0, .ref (G.1 + a0)), (1, .int x1), (2, .int x2), (3, .int x3), (5, .int x5), (6, .int x6), (7, .int x7), (8, .int x8), (9, .int x9), (10, .int x10)] []) (σ : ns_St) (s0 : Int32) (a0 : Nat) (x1 : Int32) (x2 : Int32) (x3 : Int32) (x5 : Int32) (x6 : Int32) (x7 : Int32) (x8 : Int32) (x9 : Int32) (x12 : Int32) (hk_a0 : ns_kd a0 = 9) (hf : g_M_numbers_263 kh160 kh170 kh205 σ s0 a0 x1 x2 x3 x5 x6 x7 x8 x9 x12 = some (r, σ')) : VV G p l e { frames := 3, cells := 0, slots := 0, locals := 64 } s m args below meth c 13 0 0 (MQ below (ns_Qc G (some (.int r)) ns_N σ') args s 0 0 (ns_A G)) ns_N σ 263 [(0, .ref (G.1 + a0)), (1, .int x1), (2, .int x2), (3, .int x3), (5, .int x5), (6, .int x6), (7, .int x7), (8, .int x8), (9, .int x9), (12, .int x12)] [.int s0] := by
  unfold g_M_numbers_263 at hf
  refine v_istore C 10 [(10, .int s0), (0, .ref (G.1 + a0)), (1, .int x1), (2, .int x2), (3, .int x3), (5, .int x5), (6, .int x6), (7, .int x7), (8, .int x8), (9, .int x9), (12, .int x12)] (by decide) rfl 265 rfl (by decide +kernel) ?_
  refine v_iload C 12 10 rfl 267 rfl (by decide +kernel) ?_
  refine v_if_eq C 273 270 rfl (by decide +kernel) (fun h72 => ?_) (fun h72 => ?_)
  · have hf := ite2_t hf h72
    refine v_goto C 205 (by decide +kernel) ?_
    refine v_sub [1, 2, 3, 4, 5, 6, 7, 8, 9, 0] rfl ?_
    exact hkh205 σ a0 x1 x2 x3 x5 x6 x7 x8 x9 s0 hk_a0 hf
  · have hf := ite2_f hf h72
    obtain ⟨z73, hz73, hf⟩ := bnd_e hf
    refine v_iinc C 9 (1) 9 z73 rfl (by rw [hz73]; rfl) [(9, .int z73), (10, .int s0), (0, .ref (G.1 + a0)), (1, .int x1), (2, .int x2), (3, .int x3), (5, .int x5), (6, .int x6), (7, .int x7), (8, .int x8), (12, .int x12)] (by decide) rfl 273 rfl (by decide +kernel) ?_
    refine v_goto C 205 (by decide +kernel) ?_
    refine v_sub [2, 3, 4, 5, 6, 7, 8, 9, 0, 1] rfl ?_
    exact hkh205 σ a0 x1 x2 x3 x5 x6 x7 x8 z73 s0 hk_a0 hf
theorem t_M_numbers_249 (G : ns_G) (l : Launch) {p : Program} {e : Env} {s : State} {m : MethodId} {args : Array Value} {below : List Frame} {meth : Method} {c : Code} (C : ns_Cx G p s m args meth c prog_11_method_67_code "NinthStepModel" 13) (hr : meth.sig.returnType = (some .int)) {r : Int32} {σ' : ns_St} {kh160 : ns_St → Nat → Int32 → Int32 → Int32 → Int32 → Int32 → Int32 → Option (Int32 × ns_St)} {kh170 : ns_St → Nat → Int32 → Int32 → Int32 → Int32 → Int32 → Int32 → Int32 → Option (Int32 × ns_St)} {kh205 : ns_St → Nat → Int32 → Int32 → Int32 → Int32 → Int32 → Int32 → Int32 → Int32 → Int32 → Option (Int32 × ns_St)} (hkh160 : ∀ (σ : ns_St) (a0 : Nat) (x1 : Int32) (x2 : Int32) (x3 : Int32) (x5 : Int32) (x6 : Int32) (x7 : Int32), ns_kd a0 = 9 → kh160 σ a0 x1 x2 x3 x5 x6 x7 = some (r, σ') → VV G p l e { frames := 3, cells := 0, slots := 0, locals := 64 } s m args below meth c 13 0 0 (MQ below (ns_Qc G (some (.int r)) ns_N σ') args s 0 0 (ns_A G)) ns_N σ 160 [(0, .ref (G.1 + a0)), (1, .int x1), (2, .int x2), (3, .int x3), (5, .int x5), (6, .int x6), (7, .int x7)] []) (hkh170 : ∀ (σ : ns_St) (a0 : Nat) (x1 : Int32) (x2 : Int32) (x3 : Int32) (x5 : Int32) (x6 : Int32) (x7 : Int32) (x8 : Int32), ns_kd a0 = 9 → kh170 σ a0 x1 x2 x3 x5 x6 x7 x8 = some (r, σ') → VV G p l e { frames := 3, cells := 0, slots := 0, locals := 64 } s m args below meth c 13 0 0 (MQ below (ns_Qc G (some (.int r)) ns_N σ') args s 0 0 (ns_A G)) ns_N σ 170 [(0, .ref (G.1 + a0)), (1, .int x1), (2, .int x2), (3, .int x3), (5, .int x5), (6, .int x6), (7, .int x7), (8, .int x8)] []) (hkh205 : ∀ (σ : ns_St) (a0 : Nat) (x1 : Int32) (x2 : Int32) (x3 : Int32) (x5 : Int32) (x6 : Int32) (x7 : Int32) (x8 : Int32) (x9 : Int32) (x10 : Int32), ns_kd a0 = 9 → kh205 σ a0 x1 x2 x3 x5 x6 x7 x8 x9 x10 = some (r, σ') → VV G p l e { frames := 3, cells := 0, slots := 0, locals := 64 } s m args below meth c 13 0 0 (MQ below (ns_Qc G (some (.int r)) ns_N σ') args s 0 0 (ns_A G)) ns_N σ 205 [(0, .ref (G.1 + a0)), (1, .int x1), (2, .int x2), (3, .int x3), (5, .int x5), (6, .int x6), (7, .int x7), (8, .int x8), (9, .int x9), (10, .int x10)] []) (σ : ns_St) (s0 : Int32) (a0 : Nat) (x1 : Int32) (x2 : Int32) (x3 : Int32) (x5 : Int32) (x6 : Int32) (x7 : Int32) (x8 : Int32) (x9 : Int32) (x11 : Int32) (hk_a0 : ns_kd a0 = 9) (hf : g_M_numbers_249 kh160 kh170 kh205 σ s0 a0 x1 x2 x3 x5 x6 x7 x8 x9 x11 = some (r, σ')) : VV G p l e { frames := 3, cells := 0, slots := 0, locals := 64 } s m args below meth c 13 0 0 (MQ below (ns_Qc G (some (.int r)) ns_N σ') args s 0 0 (ns_A G)) ns_N σ 249 [(0, .ref (G.1 + a0)), (1, .int x1), (2, .int x2), (3, .int x3), (5, .int x5), (6, .int x6), (7, .int x7), (8, .int x8), (9, .int x9), (11, .int x11)] [.int s0] := by
  unfold g_M_numbers_249 at hf
  refine v_istore C 12 [(12, .int s0), (0, .ref (G.1 + a0)), (1, .int x1), (2, .int x2), (3, .int x3), (5, .int x5), (6, .int x6), (7, .int x7), (8, .int x8), (9, .int x9), (11, .int x11)] (by decide) rfl 251 rfl (by decide +kernel) ?_
  refine v_iload C 11 10 rfl 253 rfl (by decide +kernel) ?_
  refine v_iload C 12 0 rfl 255 rfl (by decide +kernel) ?_
  refine v_icmp_ne C 262 258 rfl (by decide +kernel) (fun h74 => ?_) (fun h74 => ?_)
  · have hf := ite2_f hf h74
    refine v_iconst C (0) (0) (by decide) 263 rfl (by decide +kernel) ?_
    refine v_sub [1, 2, 3, 4, 5, 6, 7, 8, 9, 0] rfl ?_
    exact t_M_numbers_263 G l C hr hkh160 hkh170 hkh205 σ (0 : Int32) a0 x1 x2 x3 x5 x6 x7 x8 x9 s0 hk_a0 hf
  · have hf := ite2_t hf h74
    refine v_iconst C (1) (1) (by decide) 259 rfl (by decide +kernel) ?_
    refine v_goto C 263 (by decide +kernel) ?_
    refine v_sub [1, 2, 3, 4, 5, 6, 7, 8, 9, 0] rfl ?_
    exact t_M_numbers_263 G l C hr hkh160 hkh170 hkh205 σ (1 : Int32) a0 x1 x2 x3 x5 x6 x7 x8 x9 s0 hk_a0 hf
theorem t_M_numbers_205 (G : ns_G) (l : Launch) {p : Program} {e : Env} {s : State} {m : MethodId} {args : Array Value} {below : List Frame} {meth : Method} {c : Code} (C : ns_Cx G p s m args meth c prog_11_method_67_code "NinthStepModel" 13) (hr : meth.sig.returnType = (some .int)) {r : Int32} {σ' : ns_St} {kh160 : ns_St → Nat → Int32 → Int32 → Int32 → Int32 → Int32 → Int32 → Option (Int32 × ns_St)} {kh170 : ns_St → Nat → Int32 → Int32 → Int32 → Int32 → Int32 → Int32 → Int32 → Option (Int32 × ns_St)} (hkh160 : ∀ (σ : ns_St) (a0 : Nat) (x1 : Int32) (x2 : Int32) (x3 : Int32) (x5 : Int32) (x6 : Int32) (x7 : Int32), ns_kd a0 = 9 → kh160 σ a0 x1 x2 x3 x5 x6 x7 = some (r, σ') → VV G p l e { frames := 3, cells := 0, slots := 0, locals := 64 } s m args below meth c 13 0 0 (MQ below (ns_Qc G (some (.int r)) ns_N σ') args s 0 0 (ns_A G)) ns_N σ 160 [(0, .ref (G.1 + a0)), (1, .int x1), (2, .int x2), (3, .int x3), (5, .int x5), (6, .int x6), (7, .int x7)] []) (hkh170 : ∀ (σ : ns_St) (a0 : Nat) (x1 : Int32) (x2 : Int32) (x3 : Int32) (x5 : Int32) (x6 : Int32) (x7 : Int32) (x8 : Int32), ns_kd a0 = 9 → kh170 σ a0 x1 x2 x3 x5 x6 x7 x8 = some (r, σ') → VV G p l e { frames := 3, cells := 0, slots := 0, locals := 64 } s m args below meth c 13 0 0 (MQ below (ns_Qc G (some (.int r)) ns_N σ') args s 0 0 (ns_A G)) ns_N σ 170 [(0, .ref (G.1 + a0)), (1, .int x1), (2, .int x2), (3, .int x3), (5, .int x5), (6, .int x6), (7, .int x7), (8, .int x8)] []) : ∀ (f : Nat) (σ : ns_St) (a0 : Nat) (x1 : Int32) (x2 : Int32) (x3 : Int32) (x5 : Int32) (x6 : Int32) (x7 : Int32) (x8 : Int32) (x9 : Int32) (x10 : Int32) (hk_a0 : ns_kd a0 = 9), g_M_numbers_205 kh160 kh170 f σ a0 x1 x2 x3 x5 x6 x7 x8 x9 x10 = some (r, σ') → VV G p l e { frames := 3, cells := 0, slots := 0, locals := 64 } s m args below meth c 13 0 0 (MQ below (ns_Qc G (some (.int r)) ns_N σ') args s 0 0 (ns_A G)) ns_N σ 205 [(0, .ref (G.1 + a0)), (1, .int x1), (2, .int x2), (3, .int x3), (5, .int x5), (6, .int x6), (7, .int x7), (8, .int x8), (9, .int x9), (10, .int x10)] [] := by
  intro f
  induction f with
  | zero =>
    intro σ a0 x1 x2 x3 x5 x6 x7 x8 x9 x10 hk_a0 hf
    cases hf
  | succ f ih =>
    intro σ a0 x1 x2 x3 x5 x6 x7 x8 x9 x10 hk_a0 hf
    rw [g_M_numbers_205] at hf
    refine v_iload C 10 9 rfl 207 rfl (by decide +kernel) ?_
    refine v_if_eq C 276 210 rfl (by decide +kernel) (fun h75 => ?_) (fun h75 => ?_)
    · have hf := ite2_t hf h75
      refine v_sub [0, 1, 2, 3, 4, 5, 6, 7, 9] rfl ?_
      exact t_M_numbers_276 G l C hr hkh160 hkh170 σ a0 x1 x2 x3 x5 x6 x7 x8 x10 hk_a0 hf
    · have hf := ite2_f hf h75
      refine v_iload C 9 8 rfl 212 rfl (by decide +kernel) ?_
      refine v_iload_n C 2 2 rfl 213 rfl (by decide +kernel) ?_
      refine v_icmp_ge C 276 216 rfl (by decide +kernel) (fun h76 => ?_) (fun h76 => ?_)
      · have hf := ite2_t hf h76
        refine v_sub [0, 1, 2, 3, 4, 5, 6, 7, 9] rfl ?_
        exact t_M_numbers_276 G l C hr hkh160 hkh170 σ a0 x1 x2 x3 x5 x6 x7 x8 x10 hk_a0 hf
      · have hf := ite2_f hf h76
        refine v_aload_n C 0 0 rfl 217 rfl (by decide +kernel) ?_
        refine v_iconst C (0) (0) (by decide) 218 rfl (by decide +kernel) ?_
        obtain ⟨r78, σ77, hcr78, hf⟩ := cl2_e hf
        refine v_cV C 9 rfl (ns_kd_lt hk_a0 (by decide)) hk_a0 (by decide) [.int (0 : Int32)] [] (c_M_stepped G l σ a0 (0 : Int32) hcr78) 208 1 tw_1246 tw_1243 tw_1245 ts_92 tw_10 hd_M_stepped rfl ⟨(Nat.le_of_ble_eq_true rfl), (Nat.le_of_ble_eq_true rfl)⟩ ⟨(Nat.le_of_ble_eq_true rfl), (Nat.le_of_ble_eq_true rfl)⟩ (Nat.le_of_ble_eq_true rfl) rfl 221 rfl (by decide +kernel) [.int r78] rfl ?_
        refine v_istore C 11 [(11, .int r78), (0, .ref (G.1 + a0)), (1, .int x1), (2, .int x2), (3, .int x3), (5, .int x5), (6, .int x6), (7, .int x7), (8, .int x8), (9, .int x9), (10, .int x10)] (by decide) rfl 223 rfl (by decide +kernel) ?_
        refine v_aload_n C 0 1 rfl 224 rfl (by decide +kernel) ?_
        obtain ⟨b79, hb79, hf⟩ := drf_e hf
        obtain ⟨hk_b79, hf⟩ := grd_e hf
        refine v_getR C 9 2 hb79 rfl nin_9 (ns_kd_lt hk_a0 (by decide)) hk_a0 (by decide) (by decide) rfl 16 tw_977 rfl 227 rfl (by decide +kernel) ?_
        refine v_bipush C (40) (40) (by decide) 229 rfl (by decide +kernel) ?_
        refine v_iload_n C 1 2 rfl 230 rfl (by decide +kernel) ?_
        refine v_imul C 231 rfl (by decide +kernel) ?_
        refine v_iload C 9 9 rfl 233 rfl (by decide +kernel) ?_
        refine v_iadd C 234 rfl (by decide +kernel) ?_
        obtain ⟨hi80, hf⟩ := grd_e hf
        refine v_lald C (ns_kd_lt hk_b79 (by decide)) hk_b79 hi80 235 rfl (by decide +kernel) ?_
        refine v_aload_n C 0 1 rfl 236 rfl (by decide +kernel) ?_
        refine v_getI C 9 27 rfl nin_9 (ns_kd_lt hk_a0 (by decide)) hk_a0 (by decide) (by decide) rfl 191 tw_1002 rfl 239 rfl (by decide +kernel) ?_
        refine v_i2l C 240 rfl (by decide +kernel) ?_
        refine v_lcmp C 241 rfl (by decide +kernel) ?_
        refine v_if_ne C 248 244 rfl (by decide +kernel) (fun h81 => ?_) (fun h81 => ?_)
        · have hf := ite2_f hf h81
          refine v_iconst C (0) (0) (by decide) 249 rfl (by decide +kernel) ?_
          refine v_sub [1, 2, 3, 4, 5, 6, 7, 8, 9, 0] rfl ?_
          exact t_M_numbers_249 G l C hr hkh160 hkh170 ih σ77 (0 : Int32) a0 x1 x2 x3 x5 x6 x7 x8 x9 r78 hk_a0 hf
        · have hf := ite2_t hf h81
          refine v_iconst C (1) (1) (by decide) 245 rfl (by decide +kernel) ?_
          refine v_goto C 249 (by decide +kernel) ?_
          refine v_sub [1, 2, 3, 4, 5, 6, 7, 8, 9, 0] rfl ?_
          exact t_M_numbers_249 G l C hr hkh160 hkh170 ih σ77 (1 : Int32) a0 x1 x2 x3 x5 x6 x7 x8 x9 r78 hk_a0 hf
theorem t_M_numbers_170 (G : ns_G) (l : Launch) {p : Program} {e : Env} {s : State} {m : MethodId} {args : Array Value} {below : List Frame} {meth : Method} {c : Code} (C : ns_Cx G p s m args meth c prog_11_method_67_code "NinthStepModel" 13) (hr : meth.sig.returnType = (some .int)) {r : Int32} {σ' : ns_St} {kh160 : ns_St → Nat → Int32 → Int32 → Int32 → Int32 → Int32 → Int32 → Option (Int32 × ns_St)} (hkh160 : ∀ (σ : ns_St) (a0 : Nat) (x1 : Int32) (x2 : Int32) (x3 : Int32) (x5 : Int32) (x6 : Int32) (x7 : Int32), ns_kd a0 = 9 → kh160 σ a0 x1 x2 x3 x5 x6 x7 = some (r, σ') → VV G p l e { frames := 3, cells := 0, slots := 0, locals := 64 } s m args below meth c 13 0 0 (MQ below (ns_Qc G (some (.int r)) ns_N σ') args s 0 0 (ns_A G)) ns_N σ 160 [(0, .ref (G.1 + a0)), (1, .int x1), (2, .int x2), (3, .int x3), (5, .int x5), (6, .int x6), (7, .int x7)] []) : ∀ (f : Nat) (σ : ns_St) (a0 : Nat) (x1 : Int32) (x2 : Int32) (x3 : Int32) (x5 : Int32) (x6 : Int32) (x7 : Int32) (x8 : Int32) (hk_a0 : ns_kd a0 = 9), g_M_numbers_170 kh160 f σ a0 x1 x2 x3 x5 x6 x7 x8 = some (r, σ') → VV G p l e { frames := 3, cells := 0, slots := 0, locals := 64 } s m args below meth c 13 0 0 (MQ below (ns_Qc G (some (.int r)) ns_N σ') args s 0 0 (ns_A G)) ns_N σ 170 [(0, .ref (G.1 + a0)), (1, .int x1), (2, .int x2), (3, .int x3), (5, .int x5), (6, .int x6), (7, .int x7), (8, .int x8)] [] := by
  intro f
  induction f with
  | zero =>
    intro σ a0 x1 x2 x3 x5 x6 x7 x8 hk_a0 hf
    cases hf
  | succ f ih =>
    intro σ a0 x1 x2 x3 x5 x6 x7 x8 hk_a0 hf
    rw [g_M_numbers_170] at hf
    refine v_iload C 8 7 rfl 172 rfl (by decide +kernel) ?_
    refine v_iload C 7 6 rfl 174 rfl (by decide +kernel) ?_
    refine v_icmp_ge C 302 177 rfl (by decide +kernel) (fun h82 => ?_) (fun h82 => ?_)
    · have hf := ite2_t hf h82
      obtain ⟨z83, hz83, hf⟩ := bnd_e hf
      refine v_iinc C 7 (1) 6 z83 rfl (by rw [hz83]; rfl) [(7, .int z83), (0, .ref (G.1 + a0)), (1, .int x1), (2, .int x2), (3, .int x3), (5, .int x5), (6, .int x6), (8, .int x8)] (by decide) rfl 305 rfl (by decide +kernel) ?_
      refine v_goto C 160 (by decide +kernel) ?_
      refine v_sub [1, 2, 3, 4, 5, 6, 0] rfl ?_
      exact hkh160 σ a0 x1 x2 x3 x5 x6 z83 hk_a0 hf
    · have hf := ite2_f hf h82
      refine v_aload_n C 0 0 rfl 178 rfl (by decide +kernel) ?_
      refine v_iconst C (0) (0) (by decide) 179 rfl (by decide +kernel) ?_
      obtain ⟨σ84, hσ84, hf⟩ := bnd_e hf
      refine v_putI C 9 25 hσ84 rfl nin_9 ny_9 nty_9 nnm_9 (ns_kd_lt hk_a0 (by decide)) hk_a0 (by decide) (by decide) rfl rfl rfl rfl 185 tw_1000 rfl 182 rfl (by decide +kernel) ?_
      refine v_aload_n C 0 0 rfl 183 rfl (by decide +kernel) ?_
      refine v_iload C 7 6 rfl 185 rfl (by decide +kernel) ?_
      obtain ⟨σ85, hσ85, hf⟩ := bnd_e hf
      refine v_putI C 9 26 hσ85 rfl nin_9 ny_9 nty_9 nnm_9 (ns_kd_lt hk_a0 (by decide)) hk_a0 (by decide) (by decide) rfl rfl rfl rfl 188 tw_1001 rfl 188 rfl (by decide +kernel) ?_
      refine v_aload_n C 0 0 rfl 189 rfl (by decide +kernel) ?_
      refine v_iconst C (0) (0) (by decide) 190 rfl (by decide +kernel) ?_
      obtain ⟨σ86, hσ86, hf⟩ := bnd_e hf
      refine v_putI C 9 27 hσ86 rfl nin_9 ny_9 nty_9 nnm_9 (ns_kd_lt hk_a0 (by decide)) hk_a0 (by decide) (by decide) rfl rfl rfl rfl 191 tw_1002 rfl 193 rfl (by decide +kernel) ?_
      refine v_aload_n C 0 0 rfl 194 rfl (by decide +kernel) ?_
      refine v_iload C 8 7 rfl 196 rfl (by decide +kernel) ?_
      obtain ⟨σ87, hσ87, hf⟩ := bnd_e hf
      refine v_putI C 9 28 hσ87 rfl nin_9 ny_9 nty_9 nnm_9 (ns_kd_lt hk_a0 (by decide)) hk_a0 (by decide) (by decide) rfl rfl rfl rfl 194 tw_1003 rfl 199 rfl (by decide +kernel) ?_
      refine v_iconst C (0) (0) (by decide) 200 rfl (by decide +kernel) ?_
      refine v_istore C 9 [(9, .int (0 : Int32)), (0, .ref (G.1 + a0)), (1, .int x1), (2, .int x2), (3, .int x3), (5, .int x5), (6, .int x6), (7, .int x7), (8, .int x8)] (by decide) rfl 202 rfl (by decide +kernel) ?_
      refine v_iconst C (1) (1) (by decide) 203 rfl (by decide +kernel) ?_
      refine v_istore C 10 [(10, .int (1 : Int32)), (9, .int (0 : Int32)), (0, .ref (G.1 + a0)), (1, .int x1), (2, .int x2), (3, .int x3), (5, .int x5), (6, .int x6), (7, .int x7), (8, .int x8)] (by decide) rfl 205 rfl (by decide +kernel) ?_
      refine v_sub [2, 3, 4, 5, 6, 7, 8, 9, 1, 0] rfl ?_
      exact t_M_numbers_205 G l C hr hkh160 ih ns_F σ87 a0 x1 x2 x3 x5 x6 x7 x8 (0 : Int32) (1 : Int32) hk_a0 hf
theorem t_M_numbers_160 (G : ns_G) (l : Launch) {p : Program} {e : Env} {s : State} {m : MethodId} {args : Array Value} {below : List Frame} {meth : Method} {c : Code} (C : ns_Cx G p s m args meth c prog_11_method_67_code "NinthStepModel" 13) (hr : meth.sig.returnType = (some .int)) {r : Int32} {σ' : ns_St}  : ∀ (f : Nat) (σ : ns_St) (a0 : Nat) (x1 : Int32) (x2 : Int32) (x3 : Int32) (x5 : Int32) (x6 : Int32) (x7 : Int32) (hk_a0 : ns_kd a0 = 9), g_M_numbers_160 f σ a0 x1 x2 x3 x5 x6 x7 = some (r, σ') → VV G p l e { frames := 3, cells := 0, slots := 0, locals := 64 } s m args below meth c 13 0 0 (MQ below (ns_Qc G (some (.int r)) ns_N σ') args s 0 0 (ns_A G)) ns_N σ 160 [(0, .ref (G.1 + a0)), (1, .int x1), (2, .int x2), (3, .int x3), (5, .int x5), (6, .int x6), (7, .int x7)] [] := by
  intro f
  induction f with
  | zero =>
    intro σ a0 x1 x2 x3 x5 x6 x7 hk_a0 hf
    cases hf
  | succ f ih =>
    intro σ a0 x1 x2 x3 x5 x6 x7 hk_a0 hf
    rw [g_M_numbers_160] at hf
    refine v_iload C 7 6 rfl 162 rfl (by decide +kernel) ?_
    refine v_bipush C (14) (14) (by decide) 164 rfl (by decide +kernel) ?_
    refine v_icmp_ge C 308 167 rfl (by decide +kernel) (fun h88 => ?_) (fun h88 => ?_)
    · have hf := ite2_t hf h88
      refine v_iload_n C 3 3 rfl 309 rfl (by decide +kernel) ?_
      refine v_if_ne C 317 312 rfl (by decide +kernel) (fun h89 => ?_) (fun h89 => ?_)
      · have hf := ite2_f hf h89
        refine v_iload C 6 5 rfl 319 rfl (by decide +kernel) ?_
        obtain ⟨rfl, rfl⟩ := ret_e hf
        exact v_iret C hr (by decide +kernel)
      · have hf := ite2_t hf h89
        refine v_iload C 5 4 rfl 314 rfl (by decide +kernel) ?_
        refine v_goto C 319 (by decide +kernel) ?_
        obtain ⟨rfl, rfl⟩ := ret_e hf
        exact v_iret C hr (by decide +kernel)
    · have hf := ite2_f hf h88
      refine v_iconst C (0) (0) (by decide) 168 rfl (by decide +kernel) ?_
      refine v_istore C 8 [(8, .int (0 : Int32)), (0, .ref (G.1 + a0)), (1, .int x1), (2, .int x2), (3, .int x3), (5, .int x5), (6, .int x6), (7, .int x7)] (by decide) rfl 170 rfl (by decide +kernel) ?_
      refine v_sub [1, 2, 3, 4, 5, 6, 7, 0] rfl ?_
      exact t_M_numbers_170 G l C hr ih ns_F σ a0 x1 x2 x3 x5 x6 x7 (0 : Int32) hk_a0 hf
theorem t_M_numbers_75 (G : ns_G) (l : Launch) {p : Program} {e : Env} {s : State} {m : MethodId} {args : Array Value} {below : List Frame} {meth : Method} {c : Code} (C : ns_Cx G p s m args meth c prog_11_method_67_code "NinthStepModel" 13) (hr : meth.sig.returnType = (some .int)) {r : Int32} {σ' : ns_St}  : ∀ (f : Nat) (σ : ns_St) (a0 : Nat) (x1 : Int32) (x2 : Int32) (x3 : Int32) (x5 : Int32) (hk_a0 : ns_kd a0 = 9), g_M_numbers_75 f σ a0 x1 x2 x3 x5 = some (r, σ') → VV G p l e { frames := 3, cells := 0, slots := 0, locals := 64 } s m args below meth c 13 0 0 (MQ below (ns_Qc G (some (.int r)) ns_N σ') args s 0 0 (ns_A G)) ns_N σ 75 [(0, .ref (G.1 + a0)), (1, .int x1), (2, .int x2), (3, .int x3), (5, .int x5)] [] := by
  intro f
  induction f with
  | zero =>
    intro σ a0 x1 x2 x3 x5 hk_a0 hf
    cases hf
  | succ f ih =>
    intro σ a0 x1 x2 x3 x5 hk_a0 hf
    rw [g_M_numbers_75] at hf
    refine v_iload C 5 4 rfl 77 rfl (by decide +kernel) ?_
    refine v_iload_n C 2 2 rfl 78 rfl (by decide +kernel) ?_
    refine v_icmp_ge C 151 81 rfl (by decide +kernel) (fun h90 => ?_) (fun h90 => ?_)
    · have hf := ite2_t hf h90
      refine v_iconst C (0) (0) (by decide) 152 rfl (by decide +kernel) ?_
      refine v_istore C 5 [(5, .int (0 : Int32)), (0, .ref (G.1 + a0)), (1, .int x1), (2, .int x2), (3, .int x3)] (by decide) rfl 154 rfl (by decide +kernel) ?_
      refine v_iconst C (0) (0) (by decide) 155 rfl (by decide +kernel) ?_
      refine v_istore C 6 [(6, .int (0 : Int32)), (5, .int (0 : Int32)), (0, .ref (G.1 + a0)), (1, .int x1), (2, .int x2), (3, .int x3)] (by decide) rfl 157 rfl (by decide +kernel) ?_
      refine v_iconst C (2) (2) (by decide) 158 rfl (by decide +kernel) ?_
      refine v_istore C 7 [(7, .int (2 : Int32)), (6, .int (0 : Int32)), (5, .int (0 : Int32)), (0, .ref (G.1 + a0)), (1, .int x1), (2, .int x2), (3, .int x3)] (by decide) rfl 160 rfl (by decide +kernel) ?_
      refine v_sub [3, 4, 5, 6, 2, 1, 0] rfl ?_
      exact t_M_numbers_160 G l C hr  ns_F σ a0 x1 x2 x3 (0 : Int32) (0 : Int32) (2 : Int32) hk_a0 hf
    · have hf := ite2_f hf h90
      refine v_aload_n C 0 0 rfl 82 rfl (by decide +kernel) ?_
      obtain ⟨b91, hb91, hf⟩ := drf_e hf
      obtain ⟨hk_b91, hf⟩ := grd_e hf
      refine v_getR C 9 2 hb91 rfl nin_9 (ns_kd_lt hk_a0 (by decide)) hk_a0 (by decide) (by decide) rfl 16 tw_977 rfl 85 rfl (by decide +kernel) ?_
      refine v_bipush C (40) (40) (by decide) 87 rfl (by decide +kernel) ?_
      refine v_iload_n C 1 1 rfl 88 rfl (by decide +kernel) ?_
      refine v_imul C 89 rfl (by decide +kernel) ?_
      refine v_iload C 5 4 rfl 91 rfl (by decide +kernel) ?_
      refine v_iadd C 92 rfl (by decide +kernel) ?_
      obtain ⟨hi92, hf⟩ := grd_e hf
      refine v_lald C (ns_kd_lt hk_b91 (by decide)) hk_b91 hi92 93 rfl (by decide +kernel) ?_
      obtain ⟨z93, hz93, hf⟩ := bnd_e hf
      refine v_nmJ hz93 ?_
      refine v_lstore C 6 [(6, .long z93), (0, .ref (G.1 + a0)), (1, .int x1), (2, .int x2), (3, .int x3), (5, .int x5)] (by decide) rfl 95 rfl (by decide +kernel) ?_
      refine v_lload C 6 0 rfl 97 rfl (by decide +kernel) ?_
      refine v_lconst C 1 (1) (by decide) 98 rfl (by decide +kernel) ?_
      refine v_lcmp C 99 rfl (by decide +kernel) ?_
      refine v_if_lt C 138 102 rfl (by decide +kernel) (fun h94 => ?_) (fun h94 => ?_)
      · have hf := ite2_t hf h94
        refine v_aload_n C 0 1 rfl 139 rfl (by decide +kernel) ?_
        refine v_bipush C (-2) (-2) (by decide) 141 rfl (by decide +kernel) ?_
        obtain ⟨r96, σ95, hcr96, hf⟩ := cl2_e hf
        refine v_cV C 9 rfl (ns_kd_lt hk_a0 (by decide)) hk_a0 (by decide) [.int (-2 : Int32)] [] (c_M_no G l σ a0 (-2 : Int32) hcr96) 73 1 tw_1079 tw_1076 tw_1078 ts_73 tw_10 hd_M_no rfl ⟨(Nat.le_of_ble_eq_true rfl), (Nat.le_of_ble_eq_true rfl)⟩ ⟨(Nat.le_of_ble_eq_true rfl), (Nat.le_of_ble_eq_true rfl)⟩ (Nat.le_of_ble_eq_true rfl) rfl 144 rfl (by decide +kernel) [.int r96] rfl ?_
        obtain ⟨rfl, rfl⟩ := ret_e hf
        exact v_iret C hr (by decide +kernel)
      · have hf := ite2_f hf h94
        refine v_lload C 6 0 rfl 104 rfl (by decide +kernel) ?_
        refine v_aload_n C 0 1 rfl 105 rfl (by decide +kernel) ?_
        refine v_getI C 9 3 rfl nin_9 (ns_kd_lt hk_a0 (by decide)) hk_a0 (by decide) (by decide) rfl 59 tw_978 rfl 108 rfl (by decide +kernel) ?_
        refine v_i2l C 109 rfl (by decide +kernel) ?_
        refine v_lcmp C 110 rfl (by decide +kernel) ?_
        refine v_if_gt C 138 113 rfl (by decide +kernel) (fun h97 => ?_) (fun h97 => ?_)
        · have hf := ite2_t hf h97
          refine v_aload_n C 0 1 rfl 139 rfl (by decide +kernel) ?_
          refine v_bipush C (-2) (-2) (by decide) 141 rfl (by decide +kernel) ?_
          obtain ⟨r99, σ98, hcr99, hf⟩ := cl2_e hf
          refine v_cV C 9 rfl (ns_kd_lt hk_a0 (by decide)) hk_a0 (by decide) [.int (-2 : Int32)] [] (c_M_no G l σ a0 (-2 : Int32) hcr99) 73 1 tw_1079 tw_1076 tw_1078 ts_73 tw_10 hd_M_no rfl ⟨(Nat.le_of_ble_eq_true rfl), (Nat.le_of_ble_eq_true rfl)⟩ ⟨(Nat.le_of_ble_eq_true rfl), (Nat.le_of_ble_eq_true rfl)⟩ (Nat.le_of_ble_eq_true rfl) rfl 144 rfl (by decide +kernel) [.int r99] rfl ?_
          obtain ⟨rfl, rfl⟩ := ret_e hf
          exact v_iret C hr (by decide +kernel)
        · have hf := ite2_f hf h97
          refine v_iload C 5 5 rfl 115 rfl (by decide +kernel) ?_
          refine v_if_le C 145 118 rfl (by decide +kernel) (fun h100 => ?_) (fun h100 => ?_)
          · have hf := ite2_t hf h100
            obtain ⟨z101, hz101, hf⟩ := bnd_e hf
            refine v_iinc C 5 (1) 5 z101 rfl (by rw [hz101]; rfl) [(5, .int z101), (6, .long z93), (0, .ref (G.1 + a0)), (1, .int x1), (2, .int x2), (3, .int x3)] (by decide) rfl 148 rfl (by decide +kernel) ?_
            refine v_goto C 75 (by decide +kernel) ?_
            refine v_sub [2, 3, 4, 5, 0] rfl ?_
            exact ih σ a0 x1 x2 x3 z101 hk_a0 hf
          · have hf := ite2_f hf h100
            refine v_lload C 6 0 rfl 120 rfl (by decide +kernel) ?_
            refine v_aload_n C 0 1 rfl 121 rfl (by decide +kernel) ?_
            obtain ⟨b102, hb102, hf⟩ := drf_e hf
            obtain ⟨hk_b102, hf⟩ := grd_e hf
            refine v_getR C 9 2 hb102 rfl nin_9 (ns_kd_lt hk_a0 (by decide)) hk_a0 (by decide) (by decide) rfl 16 tw_977 rfl 124 rfl (by decide +kernel) ?_
            refine v_bipush C (40) (40) (by decide) 126 rfl (by decide +kernel) ?_
            refine v_iload_n C 1 2 rfl 127 rfl (by decide +kernel) ?_
            refine v_imul C 128 rfl (by decide +kernel) ?_
            refine v_iload C 5 5 rfl 130 rfl (by decide +kernel) ?_
            refine v_iadd C 131 rfl (by decide +kernel) ?_
            refine v_iconst C (1) (1) (by decide) 132 rfl (by decide +kernel) ?_
            refine v_isub C 133 rfl (by decide +kernel) ?_
            obtain ⟨hi103, hf⟩ := grd_e hf
            refine v_lald C (ns_kd_lt hk_b102 (by decide)) hk_b102 hi103 134 rfl (by decide +kernel) ?_
            refine v_lcmp C 135 rfl (by decide +kernel) ?_
            refine v_if_gt C 145 138 rfl (by decide +kernel) (fun h104 => ?_) (fun h104 => ?_)
            · have hf := ite2_t hf h104
              obtain ⟨z105, hz105, hf⟩ := bnd_e hf
              refine v_iinc C 5 (1) 5 z105 rfl (by rw [hz105]; rfl) [(5, .int z105), (6, .long z93), (0, .ref (G.1 + a0)), (1, .int x1), (2, .int x2), (3, .int x3)] (by decide) rfl 148 rfl (by decide +kernel) ?_
              refine v_goto C 75 (by decide +kernel) ?_
              refine v_sub [2, 3, 4, 5, 0] rfl ?_
              exact ih σ a0 x1 x2 x3 z105 hk_a0 hf
            · have hf := ite2_f hf h104
              refine v_aload_n C 0 1 rfl 139 rfl (by decide +kernel) ?_
              refine v_bipush C (-2) (-2) (by decide) 141 rfl (by decide +kernel) ?_
              obtain ⟨r107, σ106, hcr107, hf⟩ := cl2_e hf
              refine v_cV C 9 rfl (ns_kd_lt hk_a0 (by decide)) hk_a0 (by decide) [.int (-2 : Int32)] [] (c_M_no G l σ a0 (-2 : Int32) hcr107) 73 1 tw_1079 tw_1076 tw_1078 ts_73 tw_10 hd_M_no rfl ⟨(Nat.le_of_ble_eq_true rfl), (Nat.le_of_ble_eq_true rfl)⟩ ⟨(Nat.le_of_ble_eq_true rfl), (Nat.le_of_ble_eq_true rfl)⟩ (Nat.le_of_ble_eq_true rfl) rfl 144 rfl (by decide +kernel) [.int r107] rfl ?_
              obtain ⟨rfl, rfl⟩ := ret_e hf
              exact v_iret C hr (by decide +kernel)
theorem c_M_numbers (G : ns_G) (l : Launch) (σ : ns_St) (a0 : Nat) (x1 : Int32) (x2 : Int32) (x3 : Int32) {r : Int32} {σ' : ns_St} (hf : g_M_numbers σ a0 x1 x2 x3 = some (r, σ')) : ns_ok G l ⟨"NinthStepModel", "numbers", "(III)I"⟩ prog_11_method_67_code 13 (some .int) 3 64 0 0 [.ref (G.1 + a0), .int x1, .int x2, .int x3] ns_N σ (some (.int r)) ns_N σ' := by
  refine v_open (by decide) (Nat.le_of_ble_eq_true rfl) rfl ?_
  intro p e s m below meth c C hr _
  have C : ns_Cx G p s m _ meth c prog_11_method_67_code "NinthStepModel" 13 := C
  unfold g_M_numbers at hf
  obtain ⟨hk_a0, hf⟩ := grd_e hf
  refine v_iload_n C 1 1 rfl 1 rfl (by decide +kernel) ?_
  refine v_iconst C (0) (0) (by decide) 2 rfl (by decide +kernel) ?_
  refine v_bipush C (7) (7) (by decide) 4 rfl (by decide +kernel) ?_
  obtain ⟨r109, σ108, hcr109, hf⟩ := cl2_e hf
  refine v_cS C [.int x1, .int (0 : Int32), .int (7 : Int32)] [] (c_M_within G l σ x1 (0 : Int32) (7 : Int32) hcr109) 69 3 tw_1075 tw_1073 tw_1074 tw_10 hd_M_within rfl ⟨(Nat.le_of_ble_eq_true rfl), (Nat.le_of_ble_eq_true rfl)⟩ ⟨(Nat.le_of_ble_eq_true rfl), (Nat.le_of_ble_eq_true rfl)⟩ (Nat.le_of_ble_eq_true rfl) rfl 7 rfl (by decide +kernel) [.int r109] rfl ?_
  refine v_if_eq C 29 10 rfl (by decide +kernel) (fun h110 => ?_) (fun h110 => ?_)
  · have hf := ite2_t hf h110
    refine v_aload_n C 0 0 rfl 30 rfl (by decide +kernel) ?_
    refine v_bipush C (-2) (-2) (by decide) 32 rfl (by decide +kernel) ?_
    obtain ⟨r112, σ111, hcr112, hf⟩ := cl2_e hf
    refine v_cV C 9 rfl (ns_kd_lt hk_a0 (by decide)) hk_a0 (by decide) [.int (-2 : Int32)] [] (c_M_no G l σ108 a0 (-2 : Int32) hcr112) 73 1 tw_1079 tw_1076 tw_1078 ts_73 tw_10 hd_M_no rfl ⟨(Nat.le_of_ble_eq_true rfl), (Nat.le_of_ble_eq_true rfl)⟩ ⟨(Nat.le_of_ble_eq_true rfl), (Nat.le_of_ble_eq_true rfl)⟩ (Nat.le_of_ble_eq_true rfl) rfl 35 rfl (by decide +kernel) [.int r112] rfl ?_
    obtain ⟨rfl, rfl⟩ := ret_e hf
    exact v_iret C hr (by decide +kernel)
  · have hf := ite2_f hf h110
    refine v_iload_n C 2 2 rfl 11 rfl (by decide +kernel) ?_
    refine v_iconst C (1) (1) (by decide) 12 rfl (by decide +kernel) ?_
    refine v_bipush C (40) (40) (by decide) 14 rfl (by decide +kernel) ?_
    obtain ⟨r114, σ113, hcr114, hf⟩ := cl2_e hf
    refine v_cS C [.int x2, .int (1 : Int32), .int (40 : Int32)] [] (c_M_within G l σ108 x2 (1 : Int32) (40 : Int32) hcr114) 69 3 tw_1075 tw_1073 tw_1074 tw_10 hd_M_within rfl ⟨(Nat.le_of_ble_eq_true rfl), (Nat.le_of_ble_eq_true rfl)⟩ ⟨(Nat.le_of_ble_eq_true rfl), (Nat.le_of_ble_eq_true rfl)⟩ (Nat.le_of_ble_eq_true rfl) rfl 17 rfl (by decide +kernel) [.int r114] rfl ?_
    refine v_if_eq C 29 20 rfl (by decide +kernel) (fun h115 => ?_) (fun h115 => ?_)
    · have hf := ite2_t hf h115
      refine v_aload_n C 0 0 rfl 30 rfl (by decide +kernel) ?_
      refine v_bipush C (-2) (-2) (by decide) 32 rfl (by decide +kernel) ?_
      obtain ⟨r117, σ116, hcr117, hf⟩ := cl2_e hf
      refine v_cV C 9 rfl (ns_kd_lt hk_a0 (by decide)) hk_a0 (by decide) [.int (-2 : Int32)] [] (c_M_no G l σ113 a0 (-2 : Int32) hcr117) 73 1 tw_1079 tw_1076 tw_1078 ts_73 tw_10 hd_M_no rfl ⟨(Nat.le_of_ble_eq_true rfl), (Nat.le_of_ble_eq_true rfl)⟩ ⟨(Nat.le_of_ble_eq_true rfl), (Nat.le_of_ble_eq_true rfl)⟩ (Nat.le_of_ble_eq_true rfl) rfl 35 rfl (by decide +kernel) [.int r117] rfl ?_
      obtain ⟨rfl, rfl⟩ := ret_e hf
      exact v_iret C hr (by decide +kernel)
    · have hf := ite2_f hf h115
      refine v_iload_n C 3 3 rfl 21 rfl (by decide +kernel) ?_
      refine v_iconst C (0) (0) (by decide) 22 rfl (by decide +kernel) ?_
      refine v_iconst C (1) (1) (by decide) 23 rfl (by decide +kernel) ?_
      obtain ⟨r119, σ118, hcr119, hf⟩ := cl2_e hf
      refine v_cS C [.int x3, .int (0 : Int32), .int (1 : Int32)] [] (c_M_within G l σ113 x3 (0 : Int32) (1 : Int32) hcr119) 69 3 tw_1075 tw_1073 tw_1074 tw_10 hd_M_within rfl ⟨(Nat.le_of_ble_eq_true rfl), (Nat.le_of_ble_eq_true rfl)⟩ ⟨(Nat.le_of_ble_eq_true rfl), (Nat.le_of_ble_eq_true rfl)⟩ (Nat.le_of_ble_eq_true rfl) rfl 26 rfl (by decide +kernel) [.int r119] rfl ?_
      refine v_if_ne C 36 29 rfl (by decide +kernel) (fun h120 => ?_) (fun h120 => ?_)
      · have hf := ite2_f hf h120
        refine v_aload_n C 0 0 rfl 37 rfl (by decide +kernel) ?_
        refine v_iload_n C 1 1 rfl 38 rfl (by decide +kernel) ?_
        obtain ⟨r122, σ121, hcr122, hf⟩ := cl2_e hf
        refine v_cV C 9 rfl (ns_kd_lt hk_a0 (by decide)) hk_a0 (by decide) [.int x1] [] (c_M_noRow G l σ118 a0 x1 hcr122) 77 1 tw_1087 tw_1084 tw_1086 ts_74 tw_10 hd_M_noRow rfl ⟨(Nat.le_of_ble_eq_true rfl), (Nat.le_of_ble_eq_true rfl)⟩ ⟨(Nat.le_of_ble_eq_true rfl), (Nat.le_of_ble_eq_true rfl)⟩ (Nat.le_of_ble_eq_true rfl) rfl 41 rfl (by decide +kernel) [.int r122] rfl ?_
        refine v_istore C 4 [(4, .int r122), (0, .ref (G.1 + a0)), (1, .int x1), (2, .int x2), (3, .int x3)] (by decide) rfl 43 rfl (by decide +kernel) ?_
        refine v_iload C 4 0 rfl 45 rfl (by decide +kernel) ?_
        refine v_if_ge C 55 48 rfl (by decide +kernel) (fun h123 => ?_) (fun h123 => ?_)
        · have hf := ite2_t hf h123
          refine v_iload_n C 2 3 rfl 56 rfl (by decide +kernel) ?_
          refine v_aload_n C 0 1 rfl 57 rfl (by decide +kernel) ?_
          obtain ⟨b124, hb124, hf⟩ := drf_e hf
          obtain ⟨hk_b124, hf⟩ := grd_e hf
          refine v_getR C 9 1 hb124 rfl nin_9 (ns_kd_lt hk_a0 (by decide)) hk_a0 (by decide) (by decide) rfl 13 tw_976 rfl 60 rfl (by decide +kernel) ?_
          refine v_iload_n C 1 2 rfl 61 rfl (by decide +kernel) ?_
          obtain ⟨hi125, hf⟩ := grd_e hf
          refine v_iald C (ns_kd_lt hk_b124 (by decide)) hk_b124 hi125 62 rfl (by decide +kernel) ?_
          refine v_icmp_le C 72 65 rfl (by decide +kernel) (fun h126 => ?_) (fun h126 => ?_)
          · have hf := ite2_t hf h126
            refine v_iconst C (0) (0) (by decide) 73 rfl (by decide +kernel) ?_
            refine v_istore C 5 [(5, .int (0 : Int32)), (4, .int r122), (0, .ref (G.1 + a0)), (1, .int x1), (2, .int x2), (3, .int x3)] (by decide) rfl 75 rfl (by decide +kernel) ?_
            refine v_sub [2, 3, 4, 5, 0] rfl ?_
            exact t_M_numbers_75 G l C hr  ns_F σ121 a0 x1 x2 x3 (0 : Int32) hk_a0 hf
          · have hf := ite2_f hf h126
            refine v_aload_n C 0 1 rfl 66 rfl (by decide +kernel) ?_
            refine v_bipush C (-2) (-2) (by decide) 68 rfl (by decide +kernel) ?_
            obtain ⟨r128, σ127, hcr128, hf⟩ := cl2_e hf
            refine v_cV C 9 rfl (ns_kd_lt hk_a0 (by decide)) hk_a0 (by decide) [.int (-2 : Int32)] [] (c_M_no G l σ121 a0 (-2 : Int32) hcr128) 73 1 tw_1079 tw_1076 tw_1078 ts_73 tw_10 hd_M_no rfl ⟨(Nat.le_of_ble_eq_true rfl), (Nat.le_of_ble_eq_true rfl)⟩ ⟨(Nat.le_of_ble_eq_true rfl), (Nat.le_of_ble_eq_true rfl)⟩ (Nat.le_of_ble_eq_true rfl) rfl 71 rfl (by decide +kernel) [.int r128] rfl ?_
            obtain ⟨rfl, rfl⟩ := ret_e hf
            exact v_iret C hr (by decide +kernel)
        · have hf := ite2_f hf h123
          refine v_aload_n C 0 1 rfl 49 rfl (by decide +kernel) ?_
          refine v_iload C 4 0 rfl 51 rfl (by decide +kernel) ?_
          obtain ⟨r130, σ129, hcr130, hf⟩ := cl2_e hf
          refine v_cV C 9 rfl (ns_kd_lt hk_a0 (by decide)) hk_a0 (by decide) [.int r122] [] (c_M_no G l σ121 a0 r122 hcr130) 73 1 tw_1079 tw_1076 tw_1078 ts_73 tw_10 hd_M_no rfl ⟨(Nat.le_of_ble_eq_true rfl), (Nat.le_of_ble_eq_true rfl)⟩ ⟨(Nat.le_of_ble_eq_true rfl), (Nat.le_of_ble_eq_true rfl)⟩ (Nat.le_of_ble_eq_true rfl) rfl 54 rfl (by decide +kernel) [.int r130] rfl ?_
          obtain ⟨rfl, rfl⟩ := ret_e hf
          exact v_iret C hr (by decide +kernel)
      · have hf := ite2_t hf h120
        refine v_aload_n C 0 0 rfl 30 rfl (by decide +kernel) ?_
        refine v_bipush C (-2) (-2) (by decide) 32 rfl (by decide +kernel) ?_
        obtain ⟨r132, σ131, hcr132, hf⟩ := cl2_e hf
        refine v_cV C 9 rfl (ns_kd_lt hk_a0 (by decide)) hk_a0 (by decide) [.int (-2 : Int32)] [] (c_M_no G l σ118 a0 (-2 : Int32) hcr132) 73 1 tw_1079 tw_1076 tw_1078 ts_73 tw_10 hd_M_no rfl ⟨(Nat.le_of_ble_eq_true rfl), (Nat.le_of_ble_eq_true rfl)⟩ ⟨(Nat.le_of_ble_eq_true rfl), (Nat.le_of_ble_eq_true rfl)⟩ (Nat.le_of_ble_eq_true rfl) rfl 35 rfl (by decide +kernel) [.int r132] rfl ?_
        obtain ⟨rfl, rfl⟩ := ret_e hf
        exact v_iret C hr (by decide +kernel)
theorem hd_M_numbers : (⟨"NinthStepModel", "numbers", "(III)I"⟩ : MethodName).cls = "NinthStepModel" ∧ (⟨"NinthStepModel", "numbers", "(III)I"⟩ : MethodName).cls ≠ "java/lang/invoke/MethodHandle" ∧ (⟨"NinthStepModel", "numbers", "(III)I"⟩ : MethodName).cls ≠ "java/lang/invoke/VarHandle" ∧ (parseMethodDescriptor (⟨"NinthStepModel", "numbers", "(III)I"⟩ : MethodName).desc).map (fun d => d.parameters.length) = some 3 := by decide +kernel
