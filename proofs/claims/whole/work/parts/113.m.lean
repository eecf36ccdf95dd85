def g_M_copy_229  : Nat → ns_St → Nat → Int32 → Int32 → Int32 → Int32 → Int32 → Int32 → Option (Int32 × ns_St)
  | 0, _, _, _, _, _, _, _, _ => none
  | f + 1, σ, a0, x1, x2, x3, x4, x5, x6 => ite2 (x5 ≤ x6) (some (x5, σ)) (drf (σ.2.2 a0 2) fun b81 => grd (ns_kd b81 = 11) <| drf (σ.2.2 a0 2) fun b82 => grd (ns_kd b82 = 11) <| grd (ns_in ((((40 : Int32) * x1) + x3) + x6) (ns_ln b82)) <| grd (ns_in ((((40 : Int32) * x2) + x4) + x6) (ns_ln b81)) <| bnd (ns_pJ σ b81 (ns_ix ((((40 : Int32) * x2) + x4) + x6)) (σ.2.1 b82 (ns_ix ((((40 : Int32) * x1) + x3) + x6)))) fun σ85 => bnd (x6 + 1) fun z86 => (g_M_copy_229 f) σ85 a0 x1 x2 x3 x4 x5 z86)
def g_M_copy_226  (σ : ns_St) (a0 : Nat) (x1 : Int32) (x2 : Int32) (x3 : Int32) (x4 : Int32) (x5 : Int32) : Option (Int32 × ns_St) := g_M_copy_229 ns_F σ a0 x1 x2 x3 x4 x5 (0 : Int32)
def g_M_copy_183  : Nat → ns_St → Nat → Int32 → Int32 → Int32 → Int32 → Int32 → Int32 → Option (Int32 × ns_St)
  | 0, _, _, _, _, _, _, _, _ => none
  | f + 1, σ, a0, x1, x2, x3, x4, x5, x6 => ite2 (x6 < 0) (some (x5, σ)) (drf (σ.2.2 a0 2) fun b88 => grd (ns_kd b88 = 11) <| drf (σ.2.2 a0 2) fun b89 => grd (ns_kd b89 = 11) <| grd (ns_in ((((40 : Int32) * x1) + x3) + x6) (ns_ln b89)) <| grd (ns_in ((((40 : Int32) * x2) + x4) + x6) (ns_ln b88)) <| bnd (ns_pJ σ b88 (ns_ix ((((40 : Int32) * x2) + x4) + x6)) (σ.2.1 b89 (ns_ix ((((40 : Int32) * x1) + x3) + x6)))) fun σ92 => bnd (x6 + (-1)) fun z93 => (g_M_copy_183 f) σ92 a0 x1 x2 x3 x4 x5 z93)
def g_M_copy_85  (σ : ns_St) (a0 : Nat) (x1 : Int32) (x2 : Int32) (x3 : Int32) (x4 : Int32) (x5 : Int32) : Option (Int32 × ns_St) := drf (σ.2.2 a0 0) fun b94 => grd (ns_kd b94 = 10) <| grd (ns_in x1 (ns_ln b94)) <| ite2 ((σ.1 b94 (ns_ix x1)) < 0) (cl2 (g_M_no σ a0 (-4 : Int32)) fun r98 σ97 => some (r98, σ97)) (drf (σ.2.2 a0 0) fun b99 => grd (ns_kd b99 = 10) <| grd (ns_in x2 (ns_ln b99)) <| ite2 (0 ≤ (σ.1 b99 (ns_ix x2))) (ite2 (x5 < 0) (cl2 (g_M_no σ a0 (-2 : Int32)) fun r104 σ103 => some (r104, σ103)) (ite2 (x3 < 0) (cl2 (g_M_no σ a0 (-2 : Int32)) fun r107 σ106 => some (r107, σ106)) (ite2 (x4 < 0) (cl2 (g_M_no σ a0 (-2 : Int32)) fun r110 σ109 => some (r110, σ109)) (drf (σ.2.2 a0 1) fun b111 => grd (ns_kd b111 = 10) <| grd (ns_in x1 (ns_ln b111)) <| ite2 (0 < (lg_cmp ((x3.toInt64) + (x5.toInt64)) ((σ.1 b111 (ns_ix x1)).toInt64))) (cl2 (g_M_no σ a0 (-2 : Int32)) fun r115 σ114 => some (r115, σ114)) (drf (σ.2.2 a0 1) fun b116 => grd (ns_kd b116 = 10) <| grd (ns_in x2 (ns_ln b116)) <| ite2 ((lg_cmp ((x4.toInt64) + (x5.toInt64)) ((σ.1 b116 (ns_ix x2)).toInt64)) ≤ 0) (ite2 (x1 = x2) (ite2 (x4 ≤ x3) (g_M_copy_226 σ a0 x1 x2 x3 x4 x5) (bnd (x5 - (1 : Int32)) fun z121 => g_M_copy_183 ns_F σ a0 x1 x2 x3 x4 x5 z121)) (g_M_copy_226 σ a0 x1 x2 x3 x4 x5)) (cl2 (g_M_no σ a0 (-2 : Int32)) fun r123 σ122 => some (r123, σ122))))))) (cl2 (g_M_no σ a0 (-4 : Int32)) fun r125 σ124 => some (r125, σ124)))
def g_M_copy (σ : ns_St) (a0 : Nat) (x1 : Int32) (x2 : Int32) (x3 : Int32) (x4 : Int32) (x5 : Int32) : Option (Int32 × ns_St) := grd (ns_kd a0 = 9) <| cl2 (g_M_within σ x1 (0 : Int32) (7 : Int32)) fun r127 σ126 => ite2 (r127 = 0) (cl2 (g_M_no σ126 a0 (-2 : Int32)) fun r130 σ129 => some (r130, σ129)) (cl2 (g_M_within σ126 x2 (0 : Int32) (7 : Int32)) fun r132 σ131 => ite2 (r132 = 0) (cl2 (g_M_no σ131 a0 (-2 : Int32)) fun r158 σ157 => some (r158, σ157)) (drf (σ131.2.2 a0 0) fun b134 => grd (ns_kd b134 = 10) <| grd (ns_in x1 (ns_ln b134)) <| ite2 ((4 : Int32) < (σ131.1 b134 (ns_ix x1))) (cl2 (g_M_no σ131 a0 (-3 : Int32)) fun r138 σ137 => some (r138, σ137)) (drf (σ131.2.2 a0 0) fun b139 => grd (ns_kd b139 = 10) <| grd (ns_in x2 (ns_ln b139)) <| ite2 ((4 : Int32) < (σ131.1 b139 (ns_ix x2))) (cl2 (g_M_no σ131 a0 (-3 : Int32)) fun r143 σ142 => some (r143, σ142)) (cl2 (g_M_isRow σ131 a0 x1) fun r145 σ144 => ite2 (r145 = 0) (g_M_copy_85 σ144 a0 x1 x2 x3 x4 x5) (cl2 (g_M_isRow σ144 a0 x2) fun r148 σ147 => ite2 (r148 = 0) (g_M_copy_85 σ147 a0 x1 x2 x3 x4 x5) (drf (σ147.2.2 a0 0) fun b150 => grd (ns_kd b150 = 10) <| grd (ns_in x1 (ns_ln b150)) <| drf (σ147.2.2 a0 0) fun b152 => grd (ns_kd b152 = 10) <| grd (ns_in x2 (ns_ln b152)) <| ite2 ((σ147.1 b150 (ns_ix x1)) = (σ147.1 b152 (ns_ix x2))) (g_M_copy_85 σ147 a0 x1 x2 x3 x4 x5) (cl2 (g_M_no σ147 a0 (-3 : Int32)) fun r156 σ155 => some (r156, σ155))))))))
theorem t_M_copy_229 (G : ns_G) (l : Launch) {p : Program} {e : Env} {s : State} {m : MethodId} {args : Array Value} {below : List Frame} {meth : Method} {c : Code} (C : ns_Cx G p s m args meth c prog_11_method_11_code "NinthStepModel" 7) (hr : meth.sig.returnType = (some .int)) {r : Int32} {σ' : ns_St}  : ∀ (f : Nat) (σ : ns_St) (a0 : Nat) (x1 : Int32) (x2 : Int32) (x3 : Int32) (x4 : Int32) (x5 : Int32) (x6 : Int32) (hk_a0 : ns_kd a0 = 9), g_M_copy_229 f σ a0 x1 x2 x3 x4 x5 x6 = some (r, σ') → VV G p l e { frames := 2, cells := 0, slots := 0, locals := 43 } s m args below meth c 7 0 0 (MQ below (ns_Qc G (some (.int r)) ns_N σ') args s 0 0 (ns_A G)) ns_N σ 229 [(0, .ref (G.1 + a0)), (1, .int x1), (2, .int x2), (3, .int x3), (4, .int x4), (5, .int x5), (6, .int x6)] [] := by
  intro f
  induction f with
  | zero =>
    intro σ a0 x1 x2 x3 x4 x5 x6 hk_a0 hf
    cases hf
  | succ f ih =>
    intro σ a0 x1 x2 x3 x4 x5 x6 hk_a0 hf
    rw [g_M_copy_229] at hf
    refine v_iload C 6 6 rfl 231 rfl (by decide +kernel) ?_
    refine v_iload C 5 5 rfl 233 rfl (by decide +kernel) ?_
    refine v_icmp_ge C 271 236 rfl (by decide +kernel) (fun h80 => ?_) (fun h80 => ?_)
    · have hf := ite2_t hf h80
      refine v_iload C 5 5 rfl 273 rfl (by decide +kernel) ?_
      obtain ⟨rfl, rfl⟩ := ret_e hf
      exact v_iret C hr (by decide +kernel)
    · have hf := ite2_f hf h80
      refine v_aload_n C 0 0 rfl 237 rfl (by decide +kernel) ?_
      obtain ⟨b81, hb81, hf⟩ := drf_e hf
      obtain ⟨hk_b81, hf⟩ := grd_e hf
      refine v_getR C 9 2 hb81 rfl nin_9 (ns_kd_lt hk_a0 (by decide)) hk_a0 (by decide) (by decide) rfl 16 tw_977 rfl 240 rfl (by decide +kernel) ?_
      refine v_bipush C (40) (40) (by decide) 242 rfl (by decide +kernel) ?_
      refine v_iload_n C 2 2 rfl 243 rfl (by decide +kernel) ?_
      refine v_imul C 244 rfl (by decide +kernel) ?_
      refine v_iload C 4 4 rfl 246 rfl (by decide +kernel) ?_
      refine v_iadd C 247 rfl (by decide +kernel) ?_
      refine v_iload C 6 6 rfl 249 rfl (by decide +kernel) ?_
      refine v_iadd C 250 rfl (by decide +kernel) ?_
      refine v_aload_n C 0 0 rfl 251 rfl (by decide +kernel) ?_
      obtain ⟨b82, hb82, hf⟩ := drf_e hf
      obtain ⟨hk_b82, hf⟩ := grd_e hf
      refine v_getR C 9 2 hb82 rfl nin_9 (ns_kd_lt hk_a0 (by decide)) hk_a0 (by decide) (by decide) rfl 16 tw_977 rfl 254 rfl (by decide +kernel) ?_
      refine v_bipush C (40) (40) (by decide) 256 rfl (by decide +kernel) ?_
      refine v_iload_n C 1 1 rfl 257 rfl (by decide +kernel) ?_
      refine v_imul C 258 rfl (by decide +kernel) ?_
      refine v_iload_n C 3 3 rfl 259 rfl (by decide +kernel) ?_
      refine v_iadd C 260 rfl (by decide +kernel) ?_
      refine v_iload C 6 6 rfl 262 rfl (by decide +kernel) ?_
      refine v_iadd C 263 rfl (by decide +kernel) ?_
      obtain ⟨hi83, hf⟩ := grd_e hf
      refine v_lald C (ns_kd_lt hk_b82 (by decide)) hk_b82 hi83 264 rfl (by decide +kernel) ?_
      obtain ⟨hi84, hf⟩ := grd_e hf
      obtain ⟨σ85, hσ85, hf⟩ := bnd_e hf
      refine v_last C hσ85 (ns_kd_lt hk_b81 (by decide)) hk_b81 hi84 265 rfl (by decide +kernel) ?_
      obtain ⟨z86, hz86, hf⟩ := bnd_e hf
      refine v_iinc C 6 (1) 6 z86 rfl (by rw [hz86]; rfl) [(6, .int z86), (0, .ref (G.1 + a0)), (1, .int x1), (2, .int x2), (3, .int x3), (4, .int x4), (5, .int x5)] (by decide) rfl 268 rfl (by decide +kernel) ?_
      refine v_goto C 229 (by decide +kernel) ?_
      refine v_sub [1, 2, 3, 4, 5, 6, 0] rfl ?_
      exact ih σ85 a0 x1 x2 x3 x4 x5 z86 hk_a0 hf
theorem t_M_copy_226 (G : ns_G) (l : Launch) {p : Program} {e : Env} {s : State} {m : MethodId} {args : Array Value} {below : List Frame} {meth : Method} {c : Code} (C : ns_Cx G p s m args meth c prog_11_method_11_code "NinthStepModel" 7) (hr : meth.sig.returnType = (some .int)) {r : Int32} {σ' : ns_St}  (σ : ns_St) (a0 : Nat) (x1 : Int32) (x2 : Int32) (x3 : Int32) (x4 : Int32) (x5 : Int32) (hk_a0 : ns_kd a0 = 9) (hf : g_M_copy_226 σ a0 x1 x2 x3 x4 x5 = some (r, σ')) : VV G p l e { frames := 2, cells := 0, slots := 0, locals := 43 } s m args below meth c 7 0 0 (MQ below (ns_Qc G (some (.int r)) ns_N σ') args s 0 0 (ns_A G)) ns_N σ 226 [(0, .ref (G.1 + a0)), (1, .int x1), (2, .int x2), (3, .int x3), (4, .int x4), (5, .int x5)] [] := by
  unfold g_M_copy_226 at hf
  refine v_iconst C (0) (0) (by decide) 227 rfl (by decide +kernel) ?_
  refine v_istore C 6 [(6, .int (0 : Int32)), (0, .ref (G.1 + a0)), (1, .int x1), (2, .int x2), (3, .int x3), (4, .int x4), (5, .int x5)] (by decide) rfl 229 rfl (by decide +kernel) ?_
  refine v_sub [1, 2, 3, 4, 5, 6, 0] rfl ?_
  exact t_M_copy_229 G l C hr  ns_F σ a0 x1 x2 x3 x4 x5 (0 : Int32) hk_a0 hf
theorem t_M_copy_183 (G : ns_G) (l : Launch) {p : Program} {e : Env} {s : State} {m : MethodId} {args : Array Value} {below : List Frame} {meth : Method} {c : Code} (C : ns_Cx G p s m args meth c prog_11_method_11_code "NinthStepModel" 7) (hr : meth.sig.returnType = (some .int)) {r : Int32} {σ' : ns_St}  : ∀ (f : Nat) (σ : ns_St) (a0 : Nat) (x1 : Int32) (x2 : Int32) (x3 : Int32) (x4 : Int32) (x5 : Int32) (x6 : Int32) (hk_a0 : ns_kd a0 = 9), g_M_copy_183 f σ a0 x1 x2 x3 x4 x5 x6 = some (r, σ') → VV G p l e { frames := 2, cells := 0, slots := 0, locals := 43 } s m args below meth c 7 0 0 (MQ below (ns_Qc G (some (.int r)) ns_N σ') args s 0 0 (ns_A G)) ns_N σ 183 [(0, .ref (G.1 + a0)), (1, .int x1), (2, .int x2), (3, .int x3), (4, .int x4), (5, .int x5), (6, .int x6)] [] := by
  intro f
  induction f with
  | zero =>
    intro σ a0 x1 x2 x3 x4 x5 x6 hk_a0 hf
    cases hf
  | succ f ih =>
    intro σ a0 x1 x2 x3 x4 x5 x6 hk_a0 hf
    rw [g_M_copy_183] at hf
    refine v_iload C 6 6 rfl 185 rfl (by decide +kernel) ?_
    refine v_if_lt C 223 188 rfl (by decide +kernel) (fun h87 => ?_) (fun h87 => ?_)
    · have hf := ite2_t hf h87
      refine v_goto C 271 (by decide +kernel) ?_
      refine v_iload C 5 5 rfl 273 rfl (by decide +kernel) ?_
      obtain ⟨rfl, rfl⟩ := ret_e hf
      exact v_iret C hr (by decide +kernel)
    · have hf := ite2_f hf h87
      refine v_aload_n C 0 0 rfl 189 rfl (by decide +kernel) ?_
      obtain ⟨b88, hb88, hf⟩ := drf_e hf
      obtain ⟨hk_b88, hf⟩ := grd_e hf
      refine v_getR C 9 2 hb88 rfl nin_9 (ns_kd_lt hk_a0 (by decide)) hk_a0 (by decide) (by decide) rfl 16 tw_977 rfl 192 rfl (by decide +kernel) ?_
      refine v_bipush C (40) (40) (by decide) 194 rfl (by decide +kernel) ?_
      refine v_iload_n C 2 2 rfl 195 rfl (by decide +kernel) ?_
      refine v_imul C 196 rfl (by decide +kernel) ?_
      refine v_iload C 4 4 rfl 198 rfl (by decide +kernel) ?_
      refine v_iadd C 199 rfl (by decide +kernel) ?_
      refine v_iload C 6 6 rfl 201 rfl (by decide +kernel) ?_
      refine v_iadd C 202 rfl (by decide +kernel) ?_
      refine v_aload_n C 0 0 rfl 203 rfl (by decide +kernel) ?_
      obtain ⟨b89, hb89, hf⟩ := drf_e hf
      obtain ⟨hk_b89, hf⟩ := grd_e hf
      refine v_getR C 9 2 hb89 rfl nin_9 (ns_kd_lt hk_a0 (by decide)) hk_a0 (by decide) (by decide) rfl 16 tw_977 rfl 206 rfl (by decide +kernel) ?_
      refine v_bipush C (40) (40) (by decide) 208 rfl (by decide +kernel) ?_
      refine v_iload_n C 1 1 rfl 209 rfl (by decide +kernel) ?_
      refine v_imul C 210 rfl (by decide +kernel) ?_
      refine v_iload_n C 3 3 rfl 211 rfl (by decide +kernel) ?_
      refine v_iadd C 212 rfl (by decide +kernel) ?_
      refine v_iload C 6 6 rfl 214 rfl (by decide +kernel) ?_
      refine v_iadd C 215 rfl (by decide +kernel) ?_
      obtain ⟨hi90, hf⟩ := grd_e hf
      refine v_lald C (ns_kd_lt hk_b89 (by decide)) hk_b89 hi90 216 rfl (by decide +kernel) ?_
      obtain ⟨hi91, hf⟩ := grd_e hf
      obtain ⟨σ92, hσ92, hf⟩ := bnd_e hf
      refine v_last C hσ92 (ns_kd_lt hk_b88 (by decide)) hk_b88 hi91 217 rfl (by decide +kernel) ?_
      obtain ⟨z93, hz93, hf⟩ := bnd_e hf
      refine v_iinc C 6 (-1) 6 z93 rfl (by rw [hz93]; rfl) [(6, .int z93), (0, .ref (G.1 + a0)), (1, .int x1), (2, .int x2), (3, .int x3), (4, .int x4), (5, .int x5)] (by decide) rfl 220 rfl (by decide +kernel) ?_
      refine v_goto C 183 (by decide +kernel) ?_
      refine v_sub [1, 2, 3, 4, 5, 6, 0] rfl ?_
      exact ih σ92 a0 x1 x2 x3 x4 x5 z93 hk_a0 hf
theorem t_M_copy_85 (G : ns_G) (l : Launch) {p : Program} {e : Env} {s : State} {m : MethodId} {args : Array Value} {below : List Frame} {meth : Method} {c : Code} (C : ns_Cx G p s m args meth c prog_11_method_11_code "NinthStepModel" 7) (hr : meth.sig.returnType = (some .int)) {r : Int32} {σ' : ns_St}  (σ : ns_St) (a0 : Nat) (x1 : Int32) (x2 : Int32) (x3 : Int32) (x4 : Int32) (x5 : Int32) (hk_a0 : ns_kd a0 = 9) (hf : g_M_copy_85 σ a0 x1 x2 x3 x4 x5 = some (r, σ')) : VV G p l e { frames := 2, cells := 0, slots := 0, locals := 43 } s m args below meth c 7 0 0 (MQ below (ns_Qc G (some (.int r)) ns_N σ') args s 0 0 (ns_A G)) ns_N σ 85 [(0, .ref (G.1 + a0)), (1, .int x1), (2, .int x2), (3, .int x3), (4, .int x4), (5, .int x5)] [] := by
  unfold g_M_copy_85 at hf
  refine v_aload_n C 0 0 rfl 86 rfl (by decide +kernel) ?_
  obtain ⟨b94, hb94, hf⟩ := drf_e hf
  obtain ⟨hk_b94, hf⟩ := grd_e hf
  refine v_getR C 9 0 hb94 rfl nin_9 (ns_kd_lt hk_a0 (by decide)) hk_a0 (by decide) (by decide) rfl 7 tw_975 rfl 89 rfl (by decide +kernel) ?_
  refine v_iload_n C 1 1 rfl 90 rfl (by decide +kernel) ?_
  obtain ⟨hi95, hf⟩ := grd_e hf
  refine v_iald C (ns_kd_lt hk_b94 (by decide)) hk_b94 hi95 91 rfl (by decide +kernel) ?_
  refine v_if_lt C 103 94 rfl (by decide +kernel) (fun h96 => ?_) (fun h96 => ?_)
  · have hf := ite2_t hf h96
    refine v_aload_n C 0 0 rfl 104 rfl (by decide +kernel) ?_
    refine v_bipush C (-4) (-4) (by decide) 106 rfl (by decide +kernel) ?_
    obtain ⟨r98, σ97, hcr98, hf⟩ := cl2_e hf
    refine v_cV C 9 rfl (ns_kd_lt hk_a0 (by decide)) hk_a0 (by decide) [.int (-4 : Int32)] [] (c_M_no G l σ a0 (-4 : Int32) hcr98) 73 1 tw_1079 tw_1076 tw_1078 ts_73 tw_10 hd_M_no rfl ⟨(Nat.le_of_ble_eq_true rfl), (Nat.le_of_ble_eq_true rfl)⟩ ⟨(Nat.le_of_ble_eq_true rfl), (Nat.le_of_ble_eq_true rfl)⟩ (Nat.le_of_ble_eq_true rfl) rfl 109 rfl (by decide +kernel) [.int r98] rfl ?_
    obtain ⟨rfl, rfl⟩ := ret_e hf
    exact v_iret C hr (by decide +kernel)
  · have hf := ite2_f hf h96
    refine v_aload_n C 0 0 rfl 95 rfl (by decide +kernel) ?_
    obtain ⟨b99, hb99, hf⟩ := drf_e hf
    obtain ⟨hk_b99, hf⟩ := grd_e hf
    refine v_getR C 9 0 hb99 rfl nin_9 (ns_kd_lt hk_a0 (by decide)) hk_a0 (by decide) (by decide) rfl 7 tw_975 rfl 98 rfl (by decide +kernel) ?_
    refine v_iload_n C 2 2 rfl 99 rfl (by decide +kernel) ?_
    obtain ⟨hi100, hf⟩ := grd_e hf
    refine v_iald C (ns_kd_lt hk_b99 (by decide)) hk_b99 hi100 100 rfl (by decide +kernel) ?_
    refine v_if_ge C 110 103 rfl (by decide +kernel) (fun h101 => ?_) (fun h101 => ?_)
    · have hf := ite2_t hf h101
      refine v_iload C 5 5 rfl 112 rfl (by decide +kernel) ?_
      refine v_if_lt C 159 115 rfl (by decide +kernel) (fun h102 => ?_) (fun h102 => ?_)
      · have hf := ite2_t hf h102
        refine v_aload_n C 0 0 rfl 160 rfl (by decide +kernel) ?_
        refine v_bipush C (-2) (-2) (by decide) 162 rfl (by decide +kernel) ?_
        obtain ⟨r104, σ103, hcr104, hf⟩ := cl2_e hf
        refine v_cV C 9 rfl (ns_kd_lt hk_a0 (by decide)) hk_a0 (by decide) [.int (-2 : Int32)] [] (c_M_no G l σ a0 (-2 : Int32) hcr104) 73 1 tw_1079 tw_1076 tw_1078 ts_73 tw_10 hd_M_no rfl ⟨(Nat.le_of_ble_eq_true rfl), (Nat.le_of_ble_eq_true rfl)⟩ ⟨(Nat.le_of_ble_eq_true rfl), (Nat.le_of_ble_eq_true rfl)⟩ (Nat.le_of_ble_eq_true rfl) rfl 165 rfl (by decide +kernel) [.int r104] rfl ?_
        obtain ⟨rfl, rfl⟩ := ret_e hf
        exact v_iret C hr (by decide +kernel)
      · have hf := ite2_f hf h102
        refine v_iload_n C 3 3 rfl 116 rfl (by decide +kernel) ?_
        refine v_if_lt C 159 119 rfl (by decide +kernel) (fun h105 => ?_) (fun h105 => ?_)
        · have hf := ite2_t hf h105
          refine v_aload_n C 0 0 rfl 160 rfl (by decide +kernel) ?_
          refine v_bipush C (-2) (-2) (by decide) 162 rfl (by decide +kernel) ?_
          obtain ⟨r107, σ106, hcr107, hf⟩ := cl2_e hf
          refine v_cV C 9 rfl (ns_kd_lt hk_a0 (by decide)) hk_a0 (by decide) [.int (-2 : Int32)] [] (c_M_no G l σ a0 (-2 : Int32) hcr107) 73 1 tw_1079 tw_1076 tw_1078 ts_73 tw_10 hd_M_no rfl ⟨(Nat.le_of_ble_eq_true rfl), (Nat.le_of_ble_eq_true rfl)⟩ ⟨(Nat.le_of_ble_eq_true rfl), (Nat.le_of_ble_eq_true rfl)⟩ (Nat.le_of_ble_eq_true rfl) rfl 165 rfl (by decide +kernel) [.int r107] rfl ?_
          obtain ⟨rfl, rfl⟩ := ret_e hf
          exact v_iret C hr (by decide +kernel)
        · have hf := ite2_f hf h105
          refine v_iload C 4 4 rfl 121 rfl (by decide +kernel) ?_
          refine v_if_lt C 159 124 rfl (by decide +kernel) (fun h108 => ?_) (fun h108 => ?_)
          · have hf := ite2_t hf h108
            refine v_aload_n C 0 0 rfl 160 rfl (by decide +kernel) ?_
            refine v_bipush C (-2) (-2) (by decide) 162 rfl (by decide +kernel) ?_
            obtain ⟨r110, σ109, hcr110, hf⟩ := cl2_e hf
            refine v_cV C 9 rfl (ns_kd_lt hk_a0 (by decide)) hk_a0 (by decide) [.int (-2 : Int32)] [] (c_M_no G l σ a0 (-2 : Int32) hcr110) 73 1 tw_1079 tw_1076 tw_1078 ts_73 tw_10 hd_M_no rfl ⟨(Nat.le_of_ble_eq_true rfl), (Nat.le_of_ble_eq_true rfl)⟩ ⟨(Nat.le_of_ble_eq_true rfl), (Nat.le_of_ble_eq_true rfl)⟩ (Nat.le_of_ble_eq_true rfl) rfl 165 rfl (by decide +kernel) [.int r110] rfl ?_
            obtain ⟨rfl, rfl⟩ := ret_e hf
            exact v_iret C hr (by decide +kernel)
          · have hf := ite2_f hf h108
            refine v_iload_n C 3 3 rfl 125 rfl (by decide +kernel) ?_
            refine v_i2l C 126 rfl (by decide +kernel) ?_
            refine v_iload C 5 5 rfl 128 rfl (by decide +kernel) ?_
            refine v_i2l C 129 rfl (by decide +kernel) ?_
            refine v_ladd C 130 rfl (by decide +kernel) ?_
            refine v_aload_n C 0 0 rfl 131 rfl (by decide +kernel) ?_
            obtain ⟨b111, hb111, hf⟩ := drf_e hf
            obtain ⟨hk_b111, hf⟩ := grd_e hf
            refine v_getR C 9 1 hb111 rfl nin_9 (ns_kd_lt hk_a0 (by decide)) hk_a0 (by decide) (by decide) rfl 13 tw_976 rfl 134 rfl (by decide +kernel) ?_
            refine v_iload_n C 1 1 rfl 135 rfl (by decide +kernel) ?_
            obtain ⟨hi112, hf⟩ := grd_e hf
            refine v_iald C (ns_kd_lt hk_b111 (by decide)) hk_b111 hi112 136 rfl (by decide +kernel) ?_
            refine v_i2l C 137 rfl (by decide +kernel) ?_
            refine v_lcmp C 138 rfl (by decide +kernel) ?_
            refine v_if_gt C 159 141 rfl (by decide +kernel) (fun h113 => ?_) (fun h113 => ?_)
            · have hf := ite2_t hf h113
              refine v_aload_n C 0 0 rfl 160 rfl (by decide +kernel) ?_
              refine v_bipush C (-2) (-2) (by decide) 162 rfl (by decide +kernel) ?_
              obtain ⟨r115, σ114, hcr115, hf⟩ := cl2_e hf
              refine v_cV C 9 rfl (ns_kd_lt hk_a0 (by decide)) hk_a0 (by decide) [.int (-2 : Int32)] [] (c_M_no G l σ a0 (-2 : Int32) hcr115) 73 1 tw_1079 tw_1076 tw_1078 ts_73 tw_10 hd_M_no rfl ⟨(Nat.le_of_ble_eq_true rfl), (Nat.le_of_ble_eq_true rfl)⟩ ⟨(Nat.le_of_ble_eq_true rfl), (Nat.le_of_ble_eq_true rfl)⟩ (Nat.le_of_ble_eq_true rfl) rfl 165 rfl (by decide +kernel) [.int r115] rfl ?_
              obtain ⟨rfl, rfl⟩ := ret_e hf
              exact v_iret C hr (by decide +kernel)
            · have hf := ite2_f hf h113
              refine v_iload C 4 4 rfl 143 rfl (by decide +kernel) ?_
              refine v_i2l C 144 rfl (by decide +kernel) ?_
              refine v_iload C 5 5 rfl 146 rfl (by decide +kernel) ?_
              refine v_i2l C 147 rfl (by decide +kernel) ?_
              refine v_ladd C 148 rfl (by decide +kernel) ?_
              refine v_aload_n C 0 0 rfl 149 rfl (by decide +kernel) ?_
              obtain ⟨b116, hb116, hf⟩ := drf_e hf
              obtain ⟨hk_b116, hf⟩ := grd_e hf
              refine v_getR C 9 1 hb116 rfl nin_9 (ns_kd_lt hk_a0 (by decide)) hk_a0 (by decide) (by decide) rfl 13 tw_976 rfl 152 rfl (by decide +kernel) ?_
              refine v_iload_n C 2 2 rfl 153 rfl (by decide +kernel) ?_
              obtain ⟨hi117, hf⟩ := grd_e hf
              refine v_iald C (ns_kd_lt hk_b116 (by decide)) hk_b116 hi117 154 rfl (by decide +kernel) ?_
              refine v_i2l C 155 rfl (by decide +kernel) ?_
              refine v_lcmp C 156 rfl (by decide +kernel) ?_
              refine v_if_le C 166 159 rfl (by decide +kernel) (fun h118 => ?_) (fun h118 => ?_)
              · have hf := ite2_t hf h118
                refine v_iload_n C 1 1 rfl 167 rfl (by decide +kernel) ?_
                refine v_iload_n C 2 2 rfl 168 rfl (by decide +kernel) ?_
                refine v_icmp_ne C 226 171 rfl (by decide +kernel) (fun h119 => ?_) (fun h119 => ?_)
                · have hf := ite2_f hf h119
                  exact t_M_copy_226 G l C hr  σ a0 x1 x2 x3 x4 x5 hk_a0 hf
                · have hf := ite2_t hf h119
                  refine v_iload_n C 3 3 rfl 172 rfl (by decide +kernel) ?_
                  refine v_iload C 4 4 rfl 174 rfl (by decide +kernel) ?_
                  refine v_icmp_ge C 226 177 rfl (by decide +kernel) (fun h120 => ?_) (fun h120 => ?_)
                  · have hf := ite2_t hf h120
                    exact t_M_copy_226 G l C hr  σ a0 x1 x2 x3 x4 x5 hk_a0 hf
                  · have hf := ite2_f hf h120
                    refine v_iload C 5 5 rfl 179 rfl (by decide +kernel) ?_
                    refine v_iconst C (1) (1) (by decide) 180 rfl (by decide +kernel) ?_
                    refine v_isub C 181 rfl (by decide +kernel) ?_
                    obtain ⟨z121, hz121, hf⟩ := bnd_e hf
                    refine v_nmI hz121 ?_
                    refine v_istore C 6 [(6, .int z121), (0, .ref (G.1 + a0)), (1, .int x1), (2, .int x2), (3, .int x3), (4, .int x4), (5, .int x5)] (by decide) rfl 183 rfl (by decide +kernel) ?_
                    refine v_sub [1, 2, 3, 4, 5, 6, 0] rfl ?_
                    exact t_M_copy_183 G l C hr  ns_F σ a0 x1 x2 x3 x4 x5 z121 hk_a0 hf
              · have hf := ite2_f hf h118
                refine v_aload_n C 0 0 rfl 160 rfl (by decide +kernel) ?_
                refine v_bipush C (-2) (-2) (by decide) 162 rfl (by decide +kernel) ?_
                obtain ⟨r123, σ122, hcr123, hf⟩ := cl2_e hf
                refine v_cV C 9 rfl (ns_kd_lt hk_a0 (by decide)) hk_a0 (by decide) [.int (-2 : Int32)] [] (c_M_no G l σ a0 (-2 : Int32) hcr123) 73 1 tw_1079 tw_1076 tw_1078 ts_73 tw_10 hd_M_no rfl ⟨(Nat.le_of_ble_eq_true rfl), (Nat.le_of_ble_eq_true rfl)⟩ ⟨(Nat.le_of_ble_eq_true rfl), (Nat.le_of_ble_eq_true rfl)⟩ (Nat.le_of_ble_eq_true rfl) rfl 165 rfl (by decide +kernel) [.int r123] rfl ?_
                obtain ⟨rfl, rfl⟩ := ret_e hf
                exact v_iret C hr (by decide +kernel)
    · have hf := ite2_f hf h101
      refine v_aload_n C 0 0 rfl 104 rfl (by decide +kernel) ?_
      refine v_bipush C (-4) (-4) (by decide) 106 rfl (by decide +kernel) ?_
      obtain ⟨r125, σ124, hcr125, hf⟩ := cl2_e hf
      refine v_cV C 9 rfl (ns_kd_lt hk_a0 (by decide)) hk_a0 (by decide) [.int (-4 : Int32)] [] (c_M_no G l σ a0 (-4 : Int32) hcr125) 73 1 tw_1079 tw_1076 tw_1078 ts_73 tw_10 hd_M_no rfl ⟨(Nat.le_of_ble_eq_true rfl), (Nat.le_of_ble_eq_true rfl)⟩ ⟨(Nat.le_of_ble_eq_true rfl), (Nat.le_of_ble_eq_true rfl)⟩ (Nat.le_of_ble_eq_true rfl) rfl 109 rfl (by decide +kernel) [.int r125] rfl ?_
      obtain ⟨rfl, rfl⟩ := ret_e hf
      exact v_iret C hr (by decide +kernel)
theorem c_M_copy (G : ns_G) (l : Launch) (σ : ns_St) (a0 : Nat) (x1 : Int32) (x2 : Int32) (x3 : Int32) (x4 : Int32) (x5 : Int32) {r : Int32} {σ' : ns_St} (hf : g_M_copy σ a0 x1 x2 x3 x4 x5 = some (r, σ')) : ns_ok G l ⟨"NinthStepModel", "copy", "(IIIII)I"⟩ prog_11_method_11_code 7 (some .int) 2 43 0 0 [.ref (G.1 + a0), .int x1, .int x2, .int x3, .int x4, .int x5] ns_N σ (some (.int r)) ns_N σ' := by
  refine v_open (by decide) (Nat.le_of_ble_eq_true rfl) rfl ?_
  intro p e s m below meth c C hr _
  have C : ns_Cx G p s m _ meth c prog_11_method_11_code "NinthStepModel" 7 := C
  unfold g_M_copy at hf
  obtain ⟨hk_a0, hf⟩ := grd_e hf
  refine v_iload_n C 1 1 rfl 1 rfl (by decide +kernel) ?_
  refine v_iconst C (0) (0) (by decide) 2 rfl (by decide +kernel) ?_
  refine v_bipush C (7) (7) (by decide) 4 rfl (by decide +kernel) ?_
  obtain ⟨r127, σ126, hcr127, hf⟩ := cl2_e hf
  refine v_cS C [.int x1, .int (0 : Int32), .int (7 : Int32)] [] (c_M_within G l σ x1 (0 : Int32) (7 : Int32) hcr127) 69 3 tw_1075 tw_1073 tw_1074 tw_10 hd_M_within rfl ⟨(Nat.le_of_ble_eq_true rfl), (Nat.le_of_ble_eq_true rfl)⟩ ⟨(Nat.le_of_ble_eq_true rfl), (Nat.le_of_ble_eq_true rfl)⟩ (Nat.le_of_ble_eq_true rfl) rfl 7 rfl (by decide +kernel) [.int r127] rfl ?_
  refine v_if_eq C 20 10 rfl (by decide +kernel) (fun h128 => ?_) (fun h128 => ?_)
  · have hf := ite2_t hf h128
    refine v_aload_n C 0 0 rfl 21 rfl (by decide +kernel) ?_
    refine v_bipush C (-2) (-2) (by decide) 23 rfl (by decide +kernel) ?_
    obtain ⟨r130, σ129, hcr130, hf⟩ := cl2_e hf
    refine v_cV C 9 rfl (ns_kd_lt hk_a0 (by decide)) hk_a0 (by decide) [.int (-2 : Int32)] [] (c_M_no G l σ126 a0 (-2 : Int32) hcr130) 73 1 tw_1079 tw_1076 tw_1078 ts_73 tw_10 hd_M_no rfl ⟨(Nat.le_of_ble_eq_true rfl), (Nat.le_of_ble_eq_true rfl)⟩ ⟨(Nat.le_of_ble_eq_true rfl), (Nat.le_of_ble_eq_true rfl)⟩ (Nat.le_of_ble_eq_true rfl) rfl 26 rfl (by decide +kernel) [.int r130] rfl ?_
    obtain ⟨rfl, rfl⟩ := ret_e hf
    exact v_iret C hr (by decide +kernel)
  · have hf := ite2_f hf h128
    refine v_iload_n C 2 2 rfl 11 rfl (by decide +kernel) ?_
    refine v_iconst C (0) (0) (by decide) 12 rfl (by decide +kernel) ?_
    refine v_bipush C (7) (7) (by decide) 14 rfl (by decide +kernel) ?_
    obtain ⟨r132, σ131, hcr132, hf⟩ := cl2_e hf
    refine v_cS C [.int x2, .int (0 : Int32), .int (7 : Int32)] [] (c_M_within G l σ126 x2 (0 : Int32) (7 : Int32) hcr132) 69 3 tw_1075 tw_1073 tw_1074 tw_10 hd_M_within rfl ⟨(Nat.le_of_ble_eq_true rfl), (Nat.le_of_ble_eq_true rfl)⟩ ⟨(Nat.le_of_ble_eq_true rfl), (Nat.le_of_ble_eq_true rfl)⟩ (Nat.le_of_ble_eq_true rfl) rfl 17 rfl (by decide +kernel) [.int r132] rfl ?_
    refine v_if_ne C 27 20 rfl (by decide +kernel) (fun h133 => ?_) (fun h133 => ?_)
    · have hf := ite2_f hf h133
      refine v_aload_n C 0 0 rfl 28 rfl (by decide +kernel) ?_
      obtain ⟨b134, hb134, hf⟩ := drf_e hf
      obtain ⟨hk_b134, hf⟩ := grd_e hf
      refine v_getR C 9 0 hb134 rfl nin_9 (ns_kd_lt hk_a0 (by decide)) hk_a0 (by decide) (by decide) rfl 7 tw_975 rfl 31 rfl (by decide +kernel) ?_
      refine v_iload_n C 1 1 rfl 32 rfl (by decide +kernel) ?_
      obtain ⟨hi135, hf⟩ := grd_e hf
      refine v_iald C (ns_kd_lt hk_b134 (by decide)) hk_b134 hi135 33 rfl (by decide +kernel) ?_
      refine v_iconst C (4) (4) (by decide) 34 rfl (by decide +kernel) ?_
      refine v_icmp_gt C 78 37 rfl (by decide +kernel) (fun h136 => ?_) (fun h136 => ?_)
      · have hf := ite2_t hf h136
        refine v_aload_n C 0 0 rfl 79 rfl (by decide +kernel) ?_
        refine v_bipush C (-3) (-3) (by decide) 81 rfl (by decide +kernel) ?_
        obtain ⟨r138, σ137, hcr138, hf⟩ := cl2_e hf
        refine v_cV C 9 rfl (ns_kd_lt hk_a0 (by decide)) hk_a0 (by decide) [.int (-3 : Int32)] [] (c_M_no G l σ131 a0 (-3 : Int32) hcr138) 73 1 tw_1079 tw_1076 tw_1078 ts_73 tw_10 hd_M_no rfl ⟨(Nat.le_of_ble_eq_true rfl), (Nat.le_of_ble_eq_true rfl)⟩ ⟨(Nat.le_of_ble_eq_true rfl), (Nat.le_of_ble_eq_true rfl)⟩ (Nat.le_of_ble_eq_true rfl) rfl 84 rfl (by decide +kernel) [.int r138] rfl ?_
        obtain ⟨rfl, rfl⟩ := ret_e hf
        exact v_iret C hr (by decide +kernel)
      · have hf := ite2_f hf h136
        refine v_aload_n C 0 0 rfl 38 rfl (by decide +kernel) ?_
        obtain ⟨b139, hb139, hf⟩ := drf_e hf
        obtain ⟨hk_b139, hf⟩ := grd_e hf
        refine v_getR C 9 0 hb139 rfl nin_9 (ns_kd_lt hk_a0 (by decide)) hk_a0 (by decide) (by decide) rfl 7 tw_975 rfl 41 rfl (by decide +kernel) ?_
        refine v_iload_n C 2 2 rfl 42 rfl (by decide +kernel) ?_
        obtain ⟨hi140, hf⟩ := grd_e hf
        refine v_iald C (ns_kd_lt hk_b139 (by decide)) hk_b139 hi140 43 rfl (by decide +kernel) ?_
        refine v_iconst C (4) (4) (by decide) 44 rfl (by decide +kernel) ?_
        refine v_icmp_gt C 78 47 rfl (by decide +kernel) (fun h141 => ?_) (fun h141 => ?_)
        · have hf := ite2_t hf h141
          refine v_aload_n C 0 0 rfl 79 rfl (by decide +kernel) ?_
          refine v_bipush C (-3) (-3) (by decide) 81 rfl (by decide +kernel) ?_
          obtain ⟨r143, σ142, hcr143, hf⟩ := cl2_e hf
          refine v_cV C 9 rfl (ns_kd_lt hk_a0 (by decide)) hk_a0 (by decide) [.int (-3 : Int32)] [] (c_M_no G l σ131 a0 (-3 : Int32) hcr143) 73 1 tw_1079 tw_1076 tw_1078 ts_73 tw_10 hd_M_no rfl ⟨(Nat.le_of_ble_eq_true rfl), (Nat.le_of_ble_eq_true rfl)⟩ ⟨(Nat.le_of_ble_eq_true rfl), (Nat.le_of_ble_eq_true rfl)⟩ (Nat.le_of_ble_eq_true rfl) rfl 84 rfl (by decide +kernel) [.int r143] rfl ?_
          obtain ⟨rfl, rfl⟩ := ret_e hf
          exact v_iret C hr (by decide +kernel)
        · have hf := ite2_f hf h141
          refine v_aload_n C 0 0 rfl 48 rfl (by decide +kernel) ?_
          refine v_iload_n C 1 1 rfl 49 rfl (by decide +kernel) ?_
          obtain ⟨r145, σ144, hcr145, hf⟩ := cl2_e hf
          refine v_cV C 9 rfl (ns_kd_lt hk_a0 (by decide)) hk_a0 (by decide) [.int x1] [] (c_M_isRow G l σ131 a0 x1 hcr145) 80 1 tw_1095 tw_1092 tw_1094 ts_75 tw_10 hd_M_isRow rfl ⟨(Nat.le_of_ble_eq_true rfl), (Nat.le_of_ble_eq_true rfl)⟩ ⟨(Nat.le_of_ble_eq_true rfl), (Nat.le_of_ble_eq_true rfl)⟩ (Nat.le_of_ble_eq_true rfl) rfl 52 rfl (by decide +kernel) [.int r145] rfl ?_
          refine v_if_eq C 85 55 rfl (by decide +kernel) (fun h146 => ?_) (fun h146 => ?_)
          · have hf := ite2_t hf h146
            exact t_M_copy_85 G l C hr  σ144 a0 x1 x2 x3 x4 x5 hk_a0 hf
          · have hf := ite2_f hf h146
            refine v_aload_n C 0 0 rfl 56 rfl (by decide +kernel) ?_
            refine v_iload_n C 2 2 rfl 57 rfl (by decide +kernel) ?_
            obtain ⟨r148, σ147, hcr148, hf⟩ := cl2_e hf
            refine v_cV C 9 rfl (ns_kd_lt hk_a0 (by decide)) hk_a0 (by decide) [.int x2] [] (c_M_isRow G l σ144 a0 x2 hcr148) 80 1 tw_1095 tw_1092 tw_1094 ts_75 tw_10 hd_M_isRow rfl ⟨(Nat.le_of_ble_eq_true rfl), (Nat.le_of_ble_eq_true rfl)⟩ ⟨(Nat.le_of_ble_eq_true rfl), (Nat.le_of_ble_eq_true rfl)⟩ (Nat.le_of_ble_eq_true rfl) rfl 60 rfl (by decide +kernel) [.int r148] rfl ?_
            refine v_if_eq C 85 63 rfl (by decide +kernel) (fun h149 => ?_) (fun h149 => ?_)
            · have hf := ite2_t hf h149
              exact t_M_copy_85 G l C hr  σ147 a0 x1 x2 x3 x4 x5 hk_a0 hf
            · have hf := ite2_f hf h149
              refine v_aload_n C 0 0 rfl 64 rfl (by decide +kernel) ?_
              obtain ⟨b150, hb150, hf⟩ := drf_e hf
              obtain ⟨hk_b150, hf⟩ := grd_e hf
              refine v_getR C 9 0 hb150 rfl nin_9 (ns_kd_lt hk_a0 (by decide)) hk_a0 (by decide) (by decide) rfl 7 tw_975 rfl 67 rfl (by decide +kernel) ?_
              refine v_iload_n C 1 1 rfl 68 rfl (by decide +kernel) ?_
              obtain ⟨hi151, hf⟩ := grd_e hf
              refine v_iald C (ns_kd_lt hk_b150 (by decide)) hk_b150 hi151 69 rfl (by decide +kernel) ?_
              refine v_aload_n C 0 0 rfl 70 rfl (by decide +kernel) ?_
              obtain ⟨b152, hb152, hf⟩ := drf_e hf
              obtain ⟨hk_b152, hf⟩ := grd_e hf
              refine v_getR C 9 0 hb152 rfl nin_9 (ns_kd_lt hk_a0 (by decide)) hk_a0 (by decide) (by decide) rfl 7 tw_975 rfl 73 rfl (by decide +kernel) ?_
              refine v_iload_n C 2 2 rfl 74 rfl (by decide +kernel) ?_
              obtain ⟨hi153, hf⟩ := grd_e hf
              refine v_iald C (ns_kd_lt hk_b152 (by decide)) hk_b152 hi153 75 rfl (by decide +kernel) ?_
              refine v_icmp_eq C 85 78 rfl (by decide +kernel) (fun h154 => ?_) (fun h154 => ?_)
              · have hf := ite2_t hf h154
                exact t_M_copy_85 G l C hr  σ147 a0 x1 x2 x3 x4 x5 hk_a0 hf
              · have hf := ite2_f hf h154
                refine v_aload_n C 0 0 rfl 79 rfl (by decide +kernel) ?_
                refine v_bipush C (-3) (-3) (by decide) 81 rfl (by decide +kernel) ?_
                obtain ⟨r156, σ155, hcr156, hf⟩ := cl2_e hf
                refine v_cV C 9 rfl (ns_kd_lt hk_a0 (by decide)) hk_a0 (by decide) [.int (-3 : Int32)] [] (c_M_no G l σ147 a0 (-3 : Int32) hcr156) 73 1 tw_1079 tw_1076 tw_1078 ts_73 tw_10 hd_M_no rfl ⟨(Nat.le_of_ble_eq_true rfl), (Nat.le_of_ble_eq_true rfl)⟩ ⟨(Nat.le_of_ble_eq_true rfl), (Nat.le_of_ble_eq_true rfl)⟩ (Nat.le_of_ble_eq_true rfl) rfl 84 rfl (by decide +kernel) [.int r156] rfl ?_
                obtain ⟨rfl, rfl⟩ := ret_e hf
                exact v_iret C hr (by decide +kernel)
    · have hf := ite2_t hf h133
      refine v_aload_n C 0 0 rfl 21 rfl (by decide +kernel) ?_
      refine v_bipush C (-2) (-2) (by decide) 23 rfl (by decide +kernel) ?_
      obtain ⟨r158, σ157, hcr158, hf⟩ := cl2_e hf
      refine v_cV C 9 rfl (ns_kd_lt hk_a0 (by decide)) hk_a0 (by decide) [.int (-2 : Int32)] [] (c_M_no G l σ131 a0 (-2 : Int32) hcr158) 73 1 tw_1079 tw_1076 tw_1078 ts_73 tw_10 hd_M_no rfl ⟨(Nat.le_of_ble_eq_true rfl), (Nat.le_of_ble_eq_true rfl)⟩ ⟨(Nat.le_of_ble_eq_true rfl), (Nat.le_of_ble_eq_true rfl)⟩ (Nat.le_of_ble_eq_true rfl) rfl 26 rfl (by decide +kernel) [.int r158] rfl ?_
      obtain ⟨rfl, rfl⟩ := ret_e hf
      exact v_iret C hr (by decide +kernel)
theorem hd_M_copy : (⟨"NinthStepModel", "copy", "(IIIII)I"⟩ : MethodName).cls = "NinthStepModel" ∧ (⟨"NinthStepModel", "copy", "(IIIII)I"⟩ : MethodName).cls ≠ "java/lang/invoke/MethodHandle" ∧ (⟨"NinthStepModel", "copy", "(IIIII)I"⟩ : MethodName).cls ≠ "java/lang/invoke/VarHandle" ∧ (parseMethodDescriptor (⟨"NinthStepModel", "copy", "(IIIII)I"⟩ : MethodName).desc).map (fun d => d.parameters.length) = some 5 := by decide +kernel
def g_M_element (σ : ns_St) (a0 : Nat) (x1 : Int32) (x2 : Int32) : Option (Int64 × ns_St) := grd (ns_kd a0 = 9) <| cl2 (g_M_within σ x1 (0 : Int32) (7 : Int32)) fun r15 σ14 => ite2 (r15 = 0) (some ((0 : Int64), σ14)) (cl2 (g_M_isRow σ14 a0 x1) fun r18 σ17 => ite2 (r18 = 0) (some ((0 : Int64), σ17)) (drf (σ17.2.2 a0 1) fun b20 => grd (ns_kd b20 = 10) <| grd (ns_in x1 (ns_ln b20)) <| cl2 (g_M_within σ17 x2 (0 : Int32) ((σ17.1 b20 (ns_ix x1)) - (1 : Int32))) fun r23 σ22 => ite2 (r23 = 0) (some ((0 : Int64), σ22)) (drf (σ22.2.2 a0 2) fun b25 => grd (ns_kd b25 = 11) <| grd (ns_in (((40 : Int32) * x1) + x2) (ns_ln b25)) <| some ((σ22.2.1 b25 (ns_ix (((40 : Int32) * x1) + x2))), σ22))))
theorem c_M_element (G : ns_G) (l : Launch) (σ : ns_St) (a0 : Nat) (x1 : Int32) (x2 : Int32) {r : Int64} {σ' : ns_St} (hf : g_M_element σ a0 x1 x2 = some (r, σ')) : ns_ok G l ⟨"NinthStepModel", "element", "(II)J"⟩ prog_11_method_12_code 3 (some .long) 2 43 0 0 [.ref (G.1 + a0), .int x1, .int x2] ns_N σ (some (.long r)) ns_N σ' := by
  refine v_open (by decide) (Nat.le_of_ble_eq_true rfl) rfl ?_
  intro p e s m below meth c C hr _
  have C : ns_Cx G p s m _ meth c prog_11_method_12_code "NinthStepModel" 3 := C
  unfold g_M_element at hf
  obtain ⟨hk_a0, hf⟩ := grd_e hf
  refine v_iload_n C 1 1 rfl 1 rfl (by decide +kernel) ?_
  refine v_iconst C (0) (0) (by decide) 2 rfl (by decide +kernel) ?_
  refine v_bipush C (7) (7) (by decide) 4 rfl (by decide +kernel) ?_
  obtain ⟨r15, σ14, hcr15, hf⟩ := cl2_e hf
  refine v_cS C [.int x1, .int (0 : Int32), .int (7 : Int32)] [] (c_M_within G l σ x1 (0 : Int32) (7 : Int32) hcr15) 69 3 tw_1075 tw_1073 tw_1074 tw_10 hd_M_within rfl ⟨(Nat.le_of_ble_eq_true rfl), (Nat.le_of_ble_eq_true rfl)⟩ ⟨(Nat.le_of_ble_eq_true rfl), (Nat.le_of_ble_eq_true rfl)⟩ (Nat.le_of_ble_eq_true rfl) rfl 7 rfl (by decide +kernel) [.int r15] rfl ?_
  refine v_if_eq C 48 10 rfl (by decide +kernel) (fun h16 => ?_) (fun h16 => ?_)
  · have hf := ite2_t hf h16
    refine v_lconst C 0 (0) (by decide) 49 rfl (by decide +kernel) ?_
    obtain ⟨rfl, rfl⟩ := ret_e hf
    exact v_lret C hr (by decide +kernel)
  · have hf := ite2_f hf h16
    refine v_aload_n C 0 0 rfl 11 rfl (by decide +kernel) ?_
    refine v_iload_n C 1 1 rfl 12 rfl (by decide +kernel) ?_
    obtain ⟨r18, σ17, hcr18, hf⟩ := cl2_e hf
    refine v_cV C 9 rfl (ns_kd_lt hk_a0 (by decide)) hk_a0 (by decide) [.int x1] [] (c_M_isRow G l σ14 a0 x1 hcr18) 80 1 tw_1095 tw_1092 tw_1094 ts_75 tw_10 hd_M_isRow rfl ⟨(Nat.le_of_ble_eq_true rfl), (Nat.le_of_ble_eq_true rfl)⟩ ⟨(Nat.le_of_ble_eq_true rfl), (Nat.le_of_ble_eq_true rfl)⟩ (Nat.le_of_ble_eq_true rfl) rfl 15 rfl (by decide +kernel) [.int r18] rfl ?_
    refine v_if_eq C 48 18 rfl (by decide +kernel) (fun h19 => ?_) (fun h19 => ?_)
    · have hf := ite2_t hf h19
      refine v_lconst C 0 (0) (by decide) 49 rfl (by decide +kernel) ?_
      obtain ⟨rfl, rfl⟩ := ret_e hf
      exact v_lret C hr (by decide +kernel)
    · have hf := ite2_f hf h19
      refine v_iload_n C 2 2 rfl 19 rfl (by decide +kernel) ?_
      refine v_iconst C (0) (0) (by decide) 20 rfl (by decide +kernel) ?_
      refine v_aload_n C 0 0 rfl 21 rfl (by decide +kernel) ?_
      obtain ⟨b20, hb20, hf⟩ := drf_e hf
      obtain ⟨hk_b20, hf⟩ := grd_e hf
      refine v_getR C 9 1 hb20 rfl nin_9 (ns_kd_lt hk_a0 (by decide)) hk_a0 (by decide) (by decide) rfl 13 tw_976 rfl 24 rfl (by decide +kernel) ?_
      refine v_iload_n C 1 1 rfl 25 rfl (by decide +kernel) ?_
      obtain ⟨hi21, hf⟩ := grd_e hf
      refine v_iald C (ns_kd_lt hk_b20 (by decide)) hk_b20 hi21 26 rfl (by decide +kernel) ?_
      refine v_iconst C (1) (1) (by decide) 27 rfl (by decide +kernel) ?_
      refine v_isub C 28 rfl (by decide +kernel) ?_
      obtain ⟨r23, σ22, hcr23, hf⟩ := cl2_e hf
      refine v_cS C [.int x2, .int (0 : Int32), .int ((σ17.1 b20 (ns_ix x1)) - (1 : Int32))] [] (c_M_within G l σ17 x2 (0 : Int32) ((σ17.1 b20 (ns_ix x1)) - (1 : Int32)) hcr23) 69 3 tw_1075 tw_1073 tw_1074 tw_10 hd_M_within rfl ⟨(Nat.le_of_ble_eq_true rfl), (Nat.le_of_ble_eq_true rfl)⟩ ⟨(Nat.le_of_ble_eq_true rfl), (Nat.le_of_ble_eq_true rfl)⟩ (Nat.le_of_ble_eq_true rfl) rfl 31 rfl (by decide +kernel) [.int r23] rfl ?_
      refine v_if_eq C 48 34 rfl (by decide +kernel) (fun h24 => ?_) (fun h24 => ?_)
      · have hf := ite2_t hf h24
        refine v_lconst C 0 (0) (by decide) 49 rfl (by decide +kernel) ?_
        obtain ⟨rfl, rfl⟩ := ret_e hf
        exact v_lret C hr (by decide +kernel)
      · have hf := ite2_f hf h24
        refine v_aload_n C 0 0 rfl 35 rfl (by decide +kernel) ?_
        obtain ⟨b25, hb25, hf⟩ := drf_e hf
        obtain ⟨hk_b25, hf⟩ := grd_e hf
        refine v_getR C 9 2 hb25 rfl nin_9 (ns_kd_lt hk_a0 (by decide)) hk_a0 (by decide) (by decide) rfl 16 tw_977 rfl 38 rfl (by decide +kernel) ?_
        refine v_bipush C (40) (40) (by decide) 40 rfl (by decide +kernel) ?_
        refine v_iload_n C 1 1 rfl 41 rfl (by decide +kernel) ?_
        refine v_imul C 42 rfl (by decide +kernel) ?_
        refine v_iload_n C 2 2 rfl 43 rfl (by decide +kernel) ?_
        refine v_iadd C 44 rfl (by decide +kernel) ?_
        obtain ⟨hi26, hf⟩ := grd_e hf
        refine v_lald C (ns_kd_lt hk_b25 (by decide)) hk_b25 hi26 45 rfl (by decide +kernel) ?_
        refine v_goto C 49 (by decide +kernel) ?_
        obtain ⟨rfl, rfl⟩ := ret_e hf
        exact v_lret C hr (by decide +kernel)
theorem hd_M_element : (⟨"NinthStepModel", "element", "(II)J"⟩ : MethodName).cls = "NinthStepModel" ∧ (⟨"NinthStepModel", "element", "(II)J"⟩ : MethodName).cls ≠ "java/lang/invoke/MethodHandle" ∧ (⟨"NinthStepModel", "element", "(II)J"⟩ : MethodName).cls ≠ "java/lang/invoke/VarHandle" ∧ (parseMethodDescriptor (⟨"NinthStepModel", "element", "(II)J"⟩ : MethodName).desc).map (fun d => d.parameters.length) = some 2 := by decide +kernel
def g_M_holds (σ : ns_St) (a0 : Nat) (x1 : Int32) : Option (Int32 × ns_St) := grd (ns_kd a0 = 9) <| cl2 (g_M_within σ x1 (0 : Int32) (7 : Int32)) fun r7 σ6 => ite2 (r7 = 0) (some ((-1 : Int32), σ6)) (drf (σ6.2.2 a0 0) fun b9 => grd (ns_kd b9 = 10) <| grd (ns_in x1 (ns_ln b9)) <| some ((σ6.1 b9 (ns_ix x1)), σ6))
theorem c_M_holds (G : ns_G) (l : Launch) (σ : ns_St) (a0 : Nat) (x1 : Int32) {r : Int32} {σ' : ns_St} (hf : g_M_holds σ a0 x1 = some (r, σ')) : ns_ok G l ⟨"NinthStepModel", "holds", "(I)I"⟩ prog_11_method_13_code 2 (some .int) 1 22 0 0 [.ref (G.1 + a0), .int x1] ns_N σ (some (.int r)) ns_N σ' := by
  refine v_open (by decide) (Nat.le_of_ble_eq_true rfl) rfl ?_
  intro p e s m below meth c C hr _
  have C : ns_Cx G p s m _ meth c prog_11_method_13_code "NinthStepModel" 2 := C
  unfold g_M_holds at hf
  obtain ⟨hk_a0, hf⟩ := grd_e hf
  refine v_iload_n C 1 1 rfl 1 rfl (by decide +kernel) ?_
  refine v_iconst C (0) (0) (by decide) 2 rfl (by decide +kernel) ?_
  refine v_bipush C (7) (7) (by decide) 4 rfl (by decide +kernel) ?_
  obtain ⟨r7, σ6, hcr7, hf⟩ := cl2_e hf
  refine v_cS C [.int x1, .int (0 : Int32), .int (7 : Int32)] [] (c_M_within G l σ x1 (0 : Int32) (7 : Int32) hcr7) 69 3 tw_1075 tw_1073 tw_1074 tw_10 hd_M_within rfl ⟨(Nat.le_of_ble_eq_true rfl), (Nat.le_of_ble_eq_true rfl)⟩ ⟨(Nat.le_of_ble_eq_true rfl), (Nat.le_of_ble_eq_true rfl)⟩ (Nat.le_of_ble_eq_true rfl) rfl 7 rfl (by decide +kernel) [.int r7] rfl ?_
  refine v_if_eq C 19 10 rfl (by decide +kernel) (fun h8 => ?_) (fun h8 => ?_)
  · have hf := ite2_t hf h8
    refine v_iconst C (-1) (-1) (by decide) 20 rfl (by decide +kernel) ?_
    obtain ⟨rfl, rfl⟩ := ret_e hf
    exact v_iret C hr (by decide +kernel)
  · have hf := ite2_f hf h8
    refine v_aload_n C 0 0 rfl 11 rfl (by decide +kernel) ?_
    obtain ⟨b9, hb9, hf⟩ := drf_e hf
    obtain ⟨hk_b9, hf⟩ := grd_e hf
    refine v_getR C 9 0 hb9 rfl nin_9 (ns_kd_lt hk_a0 (by decide)) hk_a0 (by decide) (by decide) rfl 7 tw_975 rfl 14 rfl (by decide +kernel) ?_
    refine v_iload_n C 1 1 rfl 15 rfl (by decide +kernel) ?_
    obtain ⟨hi10, hf⟩ := grd_e hf
    refine v_iald C (ns_kd_lt hk_b9 (by decide)) hk_b9 hi10 16 rfl (by decide +kernel) ?_
    refine v_goto C 20 (by decide +kernel) ?_
    obtain ⟨rfl, rfl⟩ := ret_e hf
    exact v_iret C hr (by decide +kernel)
theorem hd_M_holds : (⟨"NinthStepModel", "holds", "(I)I"⟩ : MethodName).cls = "NinthStepModel" ∧ (⟨"NinthStepModel", "holds", "(I)I"⟩ : MethodName).cls ≠ "java/lang/invoke/MethodHandle" ∧ (⟨"NinthStepModel", "holds", "(I)I"⟩ : MethodName).cls ≠ "java/lang/invoke/VarHandle" ∧ (parseMethodDescriptor (⟨"NinthStepModel", "holds", "(I)I"⟩ : MethodName).desc).map (fun d => d.parameters.length) = some 1 := by decide +kernel
def g_M_isMule (σ : ns_St) (a0 : Nat) (x1 : Int32) : Option (Int32 × ns_St) := grd (ns_kd a0 = 9) <| cl2 (g_M_within σ x1 (0 : Int32) ((σ.1 a0 5) - (1 : Int32))) fun r5 σ4 => grd (r5 = 0 ∨ r5 = 1) <| some (r5, σ4)
theorem c_M_isMule (G : ns_G) (l : Launch) (σ : ns_St) (a0 : Nat) (x1 : Int32) {r : Int32} {σ' : ns_St} (hf : g_M_isMule σ a0 x1 = some (r, σ')) : ns_ok G l ⟨"NinthStepModel", "isMule", "(I)Z"⟩ prog_11_method_4_code 2 (some .boolean) 1 22 0 0 [.ref (G.1 + a0), .int x1] ns_N σ (some (.int r)) ns_N σ' := by
  refine v_open (by decide) (Nat.le_of_ble_eq_true rfl) rfl ?_
  intro p e s m below meth c C hr _
  have C : ns_Cx G p s m _ meth c prog_11_method_4_code "NinthStepModel" 2 := C
  unfold g_M_isMule at hf
  obtain ⟨hk_a0, hf⟩ := grd_e hf
  refine v_iload_n C 1 1 rfl 1 rfl (by decide +kernel) ?_
  refine v_iconst C (0) (0) (by decide) 2 rfl (by decide +kernel) ?_
  refine v_aload_n C 0 0 rfl 3 rfl (by decide +kernel) ?_
  refine v_getI C 9 5 rfl nin_9 (ns_kd_lt hk_a0 (by decide)) hk_a0 (by decide) (by decide) rfl 66 tw_980 rfl 6 rfl (by decide +kernel) ?_
  refine v_iconst C (1) (1) (by decide) 7 rfl (by decide +kernel) ?_
  refine v_isub C 8 rfl (by decide +kernel) ?_
  obtain ⟨r5, σ4, hcr5, hf⟩ := cl2_e hf
  refine v_cS C [.int x1, .int (0 : Int32), .int ((σ.1 a0 5) - (1 : Int32))] [] (c_M_within G l σ x1 (0 : Int32) ((σ.1 a0 5) - (1 : Int32)) hcr5) 69 3 tw_1075 tw_1073 tw_1074 tw_10 hd_M_within rfl ⟨(Nat.le_of_ble_eq_true rfl), (Nat.le_of_ble_eq_true rfl)⟩ ⟨(Nat.le_of_ble_eq_true rfl), (Nat.le_of_ble_eq_true rfl)⟩ (Nat.le_of_ble_eq_true rfl) rfl 11 rfl (by decide +kernel) [.int r5] rfl ?_
  obtain ⟨hz6, hf⟩ := grd_e hf
  obtain ⟨rfl, rfl⟩ := ret_e hf
  exact v_zret C hr (ns_z01 hz6) (by decide +kernel)
theorem hd_M_isMule : (⟨"NinthStepModel", "isMule", "(I)Z"⟩ : MethodName).cls = "NinthStepModel" ∧ (⟨"NinthStepModel", "isMule", "(I)Z"⟩ : MethodName).cls ≠ "java/lang/invoke/MethodHandle" ∧ (⟨"NinthStepModel", "isMule", "(I)Z"⟩ : MethodName).cls ≠ "java/lang/invoke/VarHandle" ∧ (parseMethodDescriptor (⟨"NinthStepModel", "isMule", "(I)Z"⟩ : MethodName).desc).map (fun d => d.parameters.length) = some 1 := by decide +kernel
def g_M_show_30  (σ : ns_St) (a0 : Nat) (x1 : Int32) (x2 : Int32) : Option (Int32 × ns_St) := drf (σ.2.2 a0 0) fun b18 => grd (ns_kd b18 = 10) <| ite2 (x2 = (-1 : Int32)) (grd (ns_in x1 (ns_ln b18)) <| bnd (ns_pI σ b18 (ns_ix x1) (-1 : Int32)) fun σ23 => some ((1 : Int32), σ23)) (grd (ns_in x1 (ns_ln b18)) <| bnd (ns_pI σ b18 (ns_ix x1) ((10 : Int32) + x2)) fun σ21 => some ((1 : Int32), σ21))
def g_M_show (σ : ns_St) (a0 : Nat) (x1 : Int32) (x2 : Int32) : Option (Int32 × ns_St) := grd (ns_kd a0 = 9) <| cl2 (g_M_within σ x1 (0 : Int32) (7 : Int32)) fun r25 σ24 => ite2 (r25 = 0) (cl2 (g_M_no σ24 a0 (-2 : Int32)) fun r28 σ27 => some (r28, σ27)) (ite2 (x2 = (-1 : Int32)) (g_M_show_30 σ24 a0 x1 x2) (cl2 (g_M_isMule σ24 a0 x2) fun r31 σ30 => ite2 (r31 = 0) (cl2 (g_M_no σ30 a0 (-2 : Int32)) fun r34 σ33 => some (r34, σ33)) (g_M_show_30 σ30 a0 x1 x2)))
theorem t_M_show_30 (G : ns_G) (l : Launch) {p : Program} {e : Env} {s : State} {m : MethodId} {args : Array Value} {below : List Frame} {meth : Method} {c : Code} (C : ns_Cx G p s m args meth c prog_11_method_14_code "NinthStepModel" 3) (hr : meth.sig.returnType = (some .int)) {r : Int32} {σ' : ns_St}  (σ : ns_St) (a0 : Nat) (x1 : Int32) (x2 : Int32) (hk_a0 : ns_kd a0 = 9) (hf : g_M_show_30 σ a0 x1 x2 = some (r, σ')) : VV G p l e { frames := 2, cells := 0, slots := 0, locals := 43 } s m args below meth c 3 0 0 (MQ below (ns_Qc G (some (.int r)) ns_N σ') args s 0 0 (ns_A G)) ns_N σ 30 [(0, .ref (G.1 + a0)), (1, .int x1), (2, .int x2)] [] := by
  unfold g_M_show_30 at hf
  refine v_aload_n C 0 0 rfl 31 rfl (by decide +kernel) ?_
  obtain ⟨b18, hb18, hf⟩ := drf_e hf
  obtain ⟨hk_b18, hf⟩ := grd_e hf
  refine v_getR C 9 0 hb18 rfl nin_9 (ns_kd_lt hk_a0 (by decide)) hk_a0 (by decide) (by decide) rfl 7 tw_975 rfl 34 rfl (by decide +kernel) ?_
  refine v_iload_n C 1 1 rfl 35 rfl (by decide +kernel) ?_
  refine v_iload_n C 2 2 rfl 36 rfl (by decide +kernel) ?_
  refine v_iconst C (-1) (-1) (by decide) 37 rfl (by decide +kernel) ?_
  refine v_icmp_ne C 44 40 rfl (by decide +kernel) (fun h19 => ?_) (fun h19 => ?_)
  · have hf := ite2_f hf h19
    refine v_bipush C (10) (10) (by decide) 46 rfl (by decide +kernel) ?_
    refine v_iload_n C 2 2 rfl 47 rfl (by decide +kernel) ?_
    refine v_iadd C 48 rfl (by decide +kernel) ?_
    obtain ⟨hi20, hf⟩ := grd_e hf
    obtain ⟨σ21, hσ21, hf⟩ := bnd_e hf
    refine v_iast C hσ21 (ns_kd_lt hk_b18 (by decide)) hk_b18 hi20 49 rfl (by decide +kernel) ?_
    refine v_iconst C (1) (1) (by decide) 50 rfl (by decide +kernel) ?_
    obtain ⟨rfl, rfl⟩ := ret_e hf
    exact v_iret C hr (by decide +kernel)
  · have hf := ite2_t hf h19
    refine v_iconst C (-1) (-1) (by decide) 41 rfl (by decide +kernel) ?_
    refine v_goto C 48 (by decide +kernel) ?_
    obtain ⟨hi22, hf⟩ := grd_e hf
    obtain ⟨σ23, hσ23, hf⟩ := bnd_e hf
    refine v_iast C hσ23 (ns_kd_lt hk_b18 (by decide)) hk_b18 hi22 49 rfl (by decide +kernel) ?_
    refine v_iconst C (1) (1) (by decide) 50 rfl (by decide +kernel) ?_
    obtain ⟨rfl, rfl⟩ := ret_e hf
    exact v_iret C hr (by decide +kernel)
theorem c_M_show (G : ns_G) (l : Launch) (σ : ns_St) (a0 : Nat) (x1 : Int32) (x2 : Int32) {r : Int32} {σ' : ns_St} (hf : g_M_show σ a0 x1 x2 = some (r, σ')) : ns_ok G l ⟨"NinthStepModel", "show", "(II)I"⟩ prog_11_method_14_code 3 (some .int) 2 43 0 0 [.ref (G.1 + a0), .int x1, .int x2] ns_N σ (some (.int r)) ns_N σ' := by
  refine v_open (by decide) (Nat.le_of_ble_eq_true rfl) rfl ?_
  intro p e s m below meth c C hr _
  have C : ns_Cx G p s m _ meth c prog_11_method_14_code "NinthStepModel" 3 := C
  unfold g_M_show at hf
  obtain ⟨hk_a0, hf⟩ := grd_e hf
  refine v_iload_n C 1 1 rfl 1 rfl (by decide +kernel) ?_
  refine v_iconst C (0) (0) (by decide) 2 rfl (by decide +kernel) ?_
  refine v_bipush C (7) (7) (by decide) 4 rfl (by decide +kernel) ?_
  obtain ⟨r25, σ24, hcr25, hf⟩ := cl2_e hf
  refine v_cS C [.int x1, .int (0 : Int32), .int (7 : Int32)] [] (c_M_within G l σ x1 (0 : Int32) (7 : Int32) hcr25) 69 3 tw_1075 tw_1073 tw_1074 tw_10 hd_M_within rfl ⟨(Nat.le_of_ble_eq_true rfl), (Nat.le_of_ble_eq_true rfl)⟩ ⟨(Nat.le_of_ble_eq_true rfl), (Nat.le_of_ble_eq_true rfl)⟩ (Nat.le_of_ble_eq_true rfl) rfl 7 rfl (by decide +kernel) [.int r25] rfl ?_
  refine v_if_eq C 23 10 rfl (by decide +kernel) (fun h26 => ?_) (fun h26 => ?_)
  · have hf := ite2_t hf h26
    refine v_aload_n C 0 0 rfl 24 rfl (by decide +kernel) ?_
    refine v_bipush C (-2) (-2) (by decide) 26 rfl (by decide +kernel) ?_
    obtain ⟨r28, σ27, hcr28, hf⟩ := cl2_e hf
    refine v_cV C 9 rfl (ns_kd_lt hk_a0 (by decide)) hk_a0 (by decide) [.int (-2 : Int32)] [] (c_M_no G l σ24 a0 (-2 : Int32) hcr28) 73 1 tw_1079 tw_1076 tw_1078 ts_73 tw_10 hd_M_no rfl ⟨(Nat.le_of_ble_eq_true rfl), (Nat.le_of_ble_eq_true rfl)⟩ ⟨(Nat.le_of_ble_eq_true rfl), (Nat.le_of_ble_eq_true rfl)⟩ (Nat.le_of_ble_eq_true rfl) rfl 29 rfl (by decide +kernel) [.int r28] rfl ?_
    obtain ⟨rfl, rfl⟩ := ret_e hf
    exact v_iret C hr (by decide +kernel)
  · have hf := ite2_f hf h26
    refine v_iload_n C 2 2 rfl 11 rfl (by decide +kernel) ?_
    refine v_iconst C (-1) (-1) (by decide) 12 rfl (by decide +kernel) ?_
    refine v_icmp_eq C 30 15 rfl (by decide +kernel) (fun h29 => ?_) (fun h29 => ?_)
    · have hf := ite2_t hf h29
      exact t_M_show_30 G l C hr  σ24 a0 x1 x2 hk_a0 hf
    · have hf := ite2_f hf h29
      refine v_aload_n C 0 0 rfl 16 rfl (by decide +kernel) ?_
      refine v_iload_n C 2 2 rfl 17 rfl (by decide +kernel) ?_
      obtain ⟨r31, σ30, hcr31, hf⟩ := cl2_e hf
      refine v_cV C 9 rfl (ns_kd_lt hk_a0 (by decide)) hk_a0 (by decide) [.int x2] [] (c_M_isMule G l σ24 a0 x2 hcr31) 84 1 tw_1111 tw_1108 tw_1110 ts_76 tw_10 hd_M_isMule rfl ⟨(Nat.le_of_ble_eq_true rfl), (Nat.le_of_ble_eq_true rfl)⟩ ⟨(Nat.le_of_ble_eq_true rfl), (Nat.le_of_ble_eq_true rfl)⟩ (Nat.le_of_ble_eq_true rfl) rfl 20 rfl (by decide +kernel) [.int r31] rfl ?_
      refine v_if_ne C 30 23 rfl (by decide +kernel) (fun h32 => ?_) (fun h32 => ?_)
      · have hf := ite2_f hf h32
        exact t_M_show_30 G l C hr  σ30 a0 x1 x2 hk_a0 hf
      · have hf := ite2_t hf h32
        refine v_aload_n C 0 0 rfl 24 rfl (by decide +kernel) ?_
        refine v_bipush C (-2) (-2) (by decide) 26 rfl (by decide +kernel) ?_
        obtain ⟨r34, σ33, hcr34, hf⟩ := cl2_e hf
        refine v_cV C 9 rfl (ns_kd_lt hk_a0 (by decide)) hk_a0 (by decide) [.int (-2 : Int32)] [] (c_M_no G l σ30 a0 (-2 : Int32) hcr34) 73 1 tw_1079 tw_1076 tw_1078 ts_73 tw_10 hd_M_no rfl ⟨(Nat.le_of_ble_eq_true rfl), (Nat.le_of_ble_eq_true rfl)⟩ ⟨(Nat.le_of_ble_eq_true rfl), (Nat.le_of_ble_eq_true rfl)⟩ (Nat.le_of_ble_eq_true rfl) rfl 29 rfl (by decide +kernel) [.int r34] rfl ?_
        obtain ⟨rfl, rfl⟩ := ret_e hf
        exact v_iret C hr (by decide +kernel)
theorem hd_M_show : (⟨"NinthStepModel", "show", "(II)I"⟩ : MethodName).cls = "NinthStepModel" ∧ (⟨"NinthStepModel", "show", "(II)I"⟩ : MethodName).cls ≠ "java/lang/invoke/MethodHandle" ∧ (⟨"NinthStepModel", "show", "(II)I"⟩ : MethodName).cls ≠ "java/lang/invoke/VarHandle" ∧ (parseMethodDescriptor (⟨"NinthStepModel", "show", "(II)I"⟩ : MethodName).desc).map (fun d => d.parameters.length) = some 2 := by decide +kernel
def g_M_isUnder_19  (σ : ns_St) (x0 : Int32) (x1 : Int32) : Option (Int32 × ns_St) := ite2 (x0 = (5 : Int32)) (ite2 (x1 = (2 : Int32)) (some ((1 : Int32), σ)) (some ((0 : Int32), σ))) (some ((0 : Int32), σ))
def g_M_isUnder (σ : ns_St) (x0 : Int32) (x1 : Int32) : Option (Int32 × ns_St) := ite2 (x1 = 0) (some ((1 : Int32), σ)) (ite2 (x0 = x1) (some ((1 : Int32), σ)) (ite2 (x0 = (3 : Int32)) (ite2 (x1 = (1 : Int32)) (some ((1 : Int32), σ)) (g_M_isUnder_19 σ x0 x1)) (g_M_isUnder_19 σ x0 x1)))
theorem t_M_isUnder_19 (G : ns_G) (l : Launch) {p : Program} {e : Env} {s : State} {m : MethodId} {args : Array Value} {below : List Frame} {meth : Method} {c : Code} (C : ns_Cx G p s m args meth c prog_11_method_15_code "NinthStepModel" 2) (hr : meth.sig.returnType = (some .boolean)) {r : Int32} {σ' : ns_St}  (σ : ns_St) (x0 : Int32) (x1 : Int32)  (hf : g_M_isUnder_19 σ x0 x1 = some (r, σ')) : VV G p l e { frames := 0, cells := 0, slots := 0, locals := 0 } s m args below meth c 2 0 0 (MQ below (ns_Qc G (some (.int r)) ns_N σ') args s 0 0 (ns_A G)) ns_N σ 19 [(0, .int x0), (1, .int x1)] [] := by
  unfold g_M_isUnder_19 at hf
  refine v_iload_n C 0 0 rfl 20 rfl (by decide +kernel) ?_
  refine v_iconst C (5) (5) (by decide) 21 rfl (by decide +kernel) ?_
  refine v_icmp_ne C 33 24 rfl (by decide +kernel) (fun h7 => ?_) (fun h7 => ?_)
  · have hf := ite2_f hf h7
    refine v_iconst C (0) (0) (by decide) 34 rfl (by decide +kernel) ?_
    obtain ⟨rfl, rfl⟩ := ret_e hf
    exact v_zret C hr rfl (by decide +kernel)
  · have hf := ite2_t hf h7
    refine v_iload_n C 1 1 rfl 25 rfl (by decide +kernel) ?_
    refine v_iconst C (2) (2) (by decide) 26 rfl (by decide +kernel) ?_
    refine v_icmp_ne C 33 29 rfl (by decide +kernel) (fun h8 => ?_) (fun h8 => ?_)
    · have hf := ite2_f hf h8
      refine v_iconst C (0) (0) (by decide) 34 rfl (by decide +kernel) ?_
      obtain ⟨rfl, rfl⟩ := ret_e hf
      exact v_zret C hr rfl (by decide +kernel)
    · have hf := ite2_t hf h8
      refine v_iconst C (1) (1) (by decide) 30 rfl (by decide +kernel) ?_
      refine v_goto C 34 (by decide +kernel) ?_
      obtain ⟨rfl, rfl⟩ := ret_e hf
      exact v_zret C hr rfl (by decide +kernel)
theorem c_M_isUnder (G : ns_G) (l : Launch) (σ : ns_St) (x0 : Int32) (x1 : Int32) {r : Int32} {σ' : ns_St} (hf : g_M_isUnder σ x0 x1 = some (r, σ')) : ns_ok G l ⟨"NinthStepModel", "isUnder", "(II)Z"⟩ prog_11_method_15_code 2 (some .boolean) 0 0 0 0 [.int x0, .int x1] ns_N σ (some (.int r)) ns_N σ' := by
  refine v_open (by decide) (Nat.le_of_ble_eq_true rfl) rfl ?_
  intro p e s m below meth c C hr _
  have C : ns_Cx G p s m _ meth c prog_11_method_15_code "NinthStepModel" 2 := C
  unfold g_M_isUnder at hf
  refine v_iload_n C 1 1 rfl 1 rfl (by decide +kernel) ?_
  refine v_if_eq C 29 4 rfl (by decide +kernel) (fun h9 => ?_) (fun h9 => ?_)
  · have hf := ite2_t hf h9
    refine v_iconst C (1) (1) (by decide) 30 rfl (by decide +kernel) ?_
    refine v_goto C 34 (by decide +kernel) ?_
    obtain ⟨rfl, rfl⟩ := ret_e hf
    exact v_zret C hr rfl (by decide +kernel)
  · have hf := ite2_f hf h9
    refine v_iload_n C 0 0 rfl 5 rfl (by decide +kernel) ?_
    refine v_iload_n C 1 1 rfl 6 rfl (by decide +kernel) ?_
    refine v_icmp_eq C 29 9 rfl (by decide +kernel) (fun h10 => ?_) (fun h10 => ?_)
    · have hf := ite2_t hf h10
      refine v_iconst C (1) (1) (by decide) 30 rfl (by decide +kernel) ?_
      refine v_goto C 34 (by decide +kernel) ?_
      obtain ⟨rfl, rfl⟩ := ret_e hf
      exact v_zret C hr rfl (by decide +kernel)
    · have hf := ite2_f hf h10
      refine v_iload_n C 0 0 rfl 10 rfl (by decide +kernel) ?_
      refine v_iconst C (3) (3) (by decide) 11 rfl (by decide +kernel) ?_
      refine v_icmp_ne C 19 14 rfl (by decide +kernel) (fun h11 => ?_) (fun h11 => ?_)
      · have hf := ite2_f hf h11
        exact t_M_isUnder_19 G l C hr  σ x0 x1 hf
      · have hf := ite2_t hf h11
        refine v_iload_n C 1 1 rfl 15 rfl (by decide +kernel) ?_
        refine v_iconst C (1) (1) (by decide) 16 rfl (by decide +kernel) ?_
        refine v_icmp_eq C 29 19 rfl (by decide +kernel) (fun h12 => ?_) (fun h12 => ?_)
        · have hf := ite2_t hf h12
          refine v_iconst C (1) (1) (by decide) 30 rfl (by decide +kernel) ?_
          refine v_goto C 34 (by decide +kernel) ?_
          obtain ⟨rfl, rfl⟩ := ret_e hf
          exact v_zret C hr rfl (by decide +kernel)
        · have hf := ite2_f hf h12
          exact t_M_isUnder_19 G l C hr  σ x0 x1 hf
theorem hd_M_isUnder : (⟨"NinthStepModel", "isUnder", "(II)Z"⟩ : MethodName).cls ≠ "java/lang/invoke/MethodHandle" ∧ (⟨"NinthStepModel", "isUnder", "(II)Z"⟩ : MethodName).cls ≠ "java/lang/invoke/VarHandle" ∧ (parseMethodDescriptor (⟨"NinthStepModel", "isUnder", "(II)Z"⟩ : MethodName).desc).map (fun d => d.parameters.length) = some 2 := by decide +kernel
def g_M_rest_20  (σ : ns_St) (a0 : Nat) (x1 : Int32) : Option (Int32 × ns_St) := drf (σ.2.2 a0 11) fun b9 => grd (ns_kd b9 = 10) <| grd (ns_in x1 (ns_ln b9)) <| some (((1 : Int32) + (σ.1 b9 (ns_ix x1))), σ)
def g_M_rest (σ : ns_St) (a0 : Nat) (x1 : Int32) : Option (Int32 × ns_St) := grd (ns_kd a0 = 9) <| drf (σ.2.2 a0 6) fun b11 => grd (ns_kd b11 = 10) <| grd (ns_in x1 (ns_ln b11)) <| ite2 ((σ.1 b11 (ns_ix x1)) = (1 : Int32)) (g_M_rest_20 σ a0 x1) (drf (σ.2.2 a0 6) fun b14 => grd (ns_kd b14 = 10) <| grd (ns_in x1 (ns_ln b14)) <| ite2 ((σ.1 b14 (ns_ix x1)) = (3 : Int32)) (g_M_rest_20 σ a0 x1) (some ((1 : Int32), σ)))
theorem t_M_rest_20 (G : ns_G) (l : Launch) {p : Program} {e : Env} {s : State} {m : MethodId} {args : Array Value} {below : List Frame} {meth : Method} {c : Code} (C : ns_Cx G p s m args meth c prog_11_method_39_code "NinthStepModel" 2) (hr : meth.sig.returnType = (some .int)) {r : Int32} {σ' : ns_St}  (σ : ns_St) (a0 : Nat) (x1 : Int32) (hk_a0 : ns_kd a0 = 9) (hf : g_M_rest_20 σ a0 x1 = some (r, σ')) : VV G p l e { frames := 0, cells := 0, slots := 0, locals := 0 } s m args below meth c 2 0 0 (MQ below (ns_Qc G (some (.int r)) ns_N σ') args s 0 0 (ns_A G)) ns_N σ 20 [(0, .ref (G.1 + a0)), (1, .int x1)] [] := by
  unfold g_M_rest_20 at hf
  refine v_iconst C (1) (1) (by decide) 21 rfl (by decide +kernel) ?_
  refine v_aload_n C 0 0 rfl 22 rfl (by decide +kernel) ?_
  obtain ⟨b9, hb9, hf⟩ := drf_e hf
  obtain ⟨hk_b9, hf⟩ := grd_e hf
  refine v_getR C 9 11 hb9 rfl nin_9 (ns_kd_lt hk_a0 (by decide)) hk_a0 (by decide) (by decide) rfl 38 tw_986 rfl 25 rfl (by decide +kernel) ?_
  refine v_iload_n C 1 1 rfl 26 rfl (by decide +kernel) ?_
  obtain ⟨hi10, hf⟩ := grd_e hf
  refine v_iald C (ns_kd_lt hk_b9 (by decide)) hk_b9 hi10 27 rfl (by decide +kernel) ?_
  refine v_iadd C 28 rfl (by decide +kernel) ?_
  refine v_goto C 32 (by decide +kernel) ?_
  obtain ⟨rfl, rfl⟩ := ret_e hf
  exact v_iret C hr (by decide +kernel)
theorem c_M_rest (G : ns_G) (l : Launch) (σ : ns_St) (a0 : Nat) (x1 : Int32) {r : Int32} {σ' : ns_St} (hf : g_M_rest σ a0 x1 = some (r, σ')) : ns_ok G l ⟨"NinthStepModel", "rest", "(I)I"⟩ prog_11_method_39_code 2 (some .int) 0 0 0 0 [.ref (G.1 + a0), .int x1] ns_N σ (some (.int r)) ns_N σ' := by
  refine v_open (by decide) (Nat.le_of_ble_eq_true rfl) rfl ?_
  intro p e s m below meth c C hr _
  have C : ns_Cx G p s m _ meth c prog_11_method_39_code "NinthStepModel" 2 := C
  unfold g_M_rest at hf
  obtain ⟨hk_a0, hf⟩ := grd_e hf
  refine v_aload_n C 0 0 rfl 1 rfl (by decide +kernel) ?_
  obtain ⟨b11, hb11, hf⟩ := drf_e hf
  obtain ⟨hk_b11, hf⟩ := grd_e hf
  refine v_getR C 9 6 hb11 rfl nin_9 (ns_kd_lt hk_a0 (by decide)) hk_a0 (by decide) (by decide) rfl 23 tw_981 rfl 4 rfl (by decide +kernel) ?_
  refine v_iload_n C 1 1 rfl 5 rfl (by decide +kernel) ?_
  obtain ⟨hi12, hf⟩ := grd_e hf
  refine v_iald C (ns_kd_lt hk_b11 (by decide)) hk_b11 hi12 6 rfl (by decide +kernel) ?_
  refine v_iconst C (1) (1) (by decide) 7 rfl (by decide +kernel) ?_
  refine v_icmp_eq C 20 10 rfl (by decide +kernel) (fun h13 => ?_) (fun h13 => ?_)
  · have hf := ite2_t hf h13
    exact t_M_rest_20 G l C hr  σ a0 x1 hk_a0 hf
  · have hf := ite2_f hf h13
    refine v_aload_n C 0 0 rfl 11 rfl (by decide +kernel) ?_
    obtain ⟨b14, hb14, hf⟩ := drf_e hf
    obtain ⟨hk_b14, hf⟩ := grd_e hf
    refine v_getR C 9 6 hb14 rfl nin_9 (ns_kd_lt hk_a0 (by decide)) hk_a0 (by decide) (by decide) rfl 23 tw_981 rfl 14 rfl (by decide +kernel) ?_
    refine v_iload_n C 1 1 rfl 15 rfl (by decide +kernel) ?_
    obtain ⟨hi15, hf⟩ := grd_e hf
    refine v_iald C (ns_kd_lt hk_b14 (by decide)) hk_b14 hi15 16 rfl (by decide +kernel) ?_
    refine v_iconst C (3) (3) (by decide) 17 rfl (by decide +kernel) ?_
    refine v_icmp_ne C 31 20 rfl (by decide +kernel) (fun h16 => ?_) (fun h16 => ?_)
    · have hf := ite2_f hf h16
      refine v_iconst C (1) (1) (by decide) 32 rfl (by decide +kernel) ?_
      obtain ⟨rfl, rfl⟩ := ret_e hf
      exact v_iret C hr (by decide +kernel)
    · have hf := ite2_t hf h16
      exact t_M_rest_20 G l C hr  σ a0 x1 hk_a0 hf
theorem hd_M_rest : (⟨"NinthStepModel", "rest", "(I)I"⟩ : MethodName).cls = "NinthStepModel" ∧ (⟨"NinthStepModel", "rest", "(I)I"⟩ : MethodName).cls ≠ "java/lang/invoke/MethodHandle" ∧ (⟨"NinthStepModel", "rest", "(I)I"⟩ : MethodName).cls ≠ "java/lang/invoke/VarHandle" ∧ (parseMethodDescriptor (⟨"NinthStepModel", "rest", "(I)I"⟩ : MethodName).desc).map (fun d => d.parameters.length) = some 1 := by decide +kernel
def g_M_isThere (σ : ns_St) (a0 : Nat) (x1 : Int32) (x2 : Int32) : Option (Int32 × ns_St) := grd (ns_kd a0 = 9) <| drf (σ.2.2 a0 4) fun b4 => grd (ns_kd b4 = 10) <| grd (ns_in x1 (ns_ln b4)) <| ite2 (((σ.1 b4 (ns_ix x1)) &&& x2) = 0) (some ((0 : Int32), σ)) (some ((1 : Int32), σ))
theorem c_M_isThere (G : ns_G) (l : Launch) (σ : ns_St) (a0 : Nat) (x1 : Int32) (x2 : Int32) {r : Int32} {σ' : ns_St} (hf : g_M_isThere σ a0 x1 x2 = some (r, σ')) : ns_ok G l ⟨"NinthStepModel", "isThere", "(II)Z"⟩ prog_11_method_6_code 3 (some .boolean) 0 0 0 0 [.ref (G.1 + a0), .int x1, .int x2] ns_N σ (some (.int r)) ns_N σ' := by
  refine v_open (by decide) (Nat.le_of_ble_eq_true rfl) rfl ?_
  intro p e s m below meth c C hr _
  have C : ns_Cx G p s m _ meth c prog_11_method_6_code "NinthStepModel" 3 := C
  unfold g_M_isThere at hf
  obtain ⟨hk_a0, hf⟩ := grd_e hf
  refine v_aload_n C 0 0 rfl 1 rfl (by decide +kernel) ?_
  obtain ⟨b4, hb4, hf⟩ := drf_e hf
  obtain ⟨hk_b4, hf⟩ := grd_e hf
  refine v_getR C 9 4 hb4 rfl nin_9 (ns_kd_lt hk_a0 (by decide)) hk_a0 (by decide) (by decide) rfl 20 tw_979 rfl 4 rfl (by decide +kernel) ?_
  refine v_iload_n C 1 1 rfl 5 rfl (by decide +kernel) ?_
  obtain ⟨hi5, hf⟩ := grd_e hf
  refine v_iald C (ns_kd_lt hk_b4 (by decide)) hk_b4 hi5 6 rfl (by decide +kernel) ?_
  refine v_iload_n C 2 2 rfl 7 rfl (by decide +kernel) ?_
  refine v_iand C 8 rfl (by decide +kernel) ?_
  refine v_if_eq C 15 11 rfl (by decide +kernel) (fun h6 => ?_) (fun h6 => ?_)
  · have hf := ite2_t hf h6
    refine v_iconst C (0) (0) (by decide) 16 rfl (by decide +kernel) ?_
    obtain ⟨rfl, rfl⟩ := ret_e hf
    exact v_zret C hr rfl (by decide +kernel)
  · have hf := ite2_f hf h6
    refine v_iconst C (1) (1) (by decide) 12 rfl (by decide +kernel) ?_
    refine v_goto C 16 (by decide +kernel) ?_
    obtain ⟨rfl, rfl⟩ := ret_e hf
    exact v_zret C hr rfl (by decide +kernel)
theorem hd_M_isThere : (⟨"NinthStepModel", "isThere", "(II)Z"⟩ : MethodName).cls = "NinthStepModel" ∧ (⟨"NinthStepModel", "isThere", "(II)Z"⟩ : MethodName).cls ≠ "java/lang/invoke/MethodHandle" ∧ (⟨"NinthStepModel", "isThere", "(II)Z"⟩ : MethodName).cls ≠ "java/lang/invoke/VarHandle" ∧ (parseMethodDescriptor (⟨"NinthStepModel", "isThere", "(II)Z"⟩ : MethodName).desc).map (fun d => d.parameters.length) = some 2 := by decide +kernel
def g_M_aheadOf_12  : Nat → ns_St → Nat → Int32 → Int32 → Int32 → Option (Int32 × ns_St)
  | 0, _, _, _, _, _ => none
  | f + 1, σ, a0, x2, x3, x4 => ite2 ((σ.1 a0 3) < x4) (some (x3, σ)) (cl2 (g_M_isThere σ a0 x4 x2) fun r13 σ12 => ite2 (r13 = 0) (bnd (x4 + 1) fun z15 => (g_M_aheadOf_12 f) σ12 a0 x2 x3 z15) (bnd (x3 + 1) fun z16 => bnd (x4 + 1) fun z17 => (g_M_aheadOf_12 f) σ12 a0 x2 z16 z17))
def g_M_aheadOf (σ : ns_St) (a0 : Nat) (x1 : Int32) (x2 : Int32) : Option (Int32 × ns_St) := grd (ns_kd a0 = 9) <| drf (σ.2.2 a0 8) fun b18 => grd (ns_kd b18 = 10) <| grd (ns_in x1 (ns_ln b18)) <| bnd ((σ.1 b18 (ns_ix x1)) + (1 : Int32)) fun z20 => g_M_aheadOf_12 ns_F σ a0 x2 (0 : Int32) z20
theorem t_M_aheadOf_12 (G : ns_G) (l : Launch) {p : Program} {e : Env} {s : State} {m : MethodId} {args : Array Value} {below : List Frame} {meth : Method} {c : Code} (C : ns_Cx G p s m args meth c prog_11_method_16_code "NinthStepModel" 5) (hr : meth.sig.returnType = (some .int)) {r : Int32} {σ' : ns_St}  : ∀ (f : Nat) (σ : ns_St) (a0 : Nat) (x2 : Int32) (x3 : Int32) (x4 : Int32) (hk_a0 : ns_kd a0 = 9), g_M_aheadOf_12 f σ a0 x2 x3 x4 = some (r, σ') → VV G p l e { frames := 1, cells := 0, slots := 0, locals := 22 } s m args below meth c 5 0 0 (MQ below (ns_Qc G (some (.int r)) ns_N σ') args s 0 0 (ns_A G)) ns_N σ 12 [(0, .ref (G.1 + a0)), (2, .int x2), (3, .int x3), (4, .int x4)] [] := by
  intro f
  induction f with
  | zero =>
    intro σ a0 x2 x3 x4 hk_a0 hf
    cases hf
  | succ f ih =>
    intro σ a0 x2 x3 x4 hk_a0 hf
    rw [g_M_aheadOf_12] at hf
    refine v_iload C 4 3 rfl 14 rfl (by decide +kernel) ?_
    refine v_aload_n C 0 0 rfl 15 rfl (by decide +kernel) ?_
    refine v_getI C 9 3 rfl nin_9 (ns_kd_lt hk_a0 (by decide)) hk_a0 (by decide) (by decide) rfl 59 tw_978 rfl 18 rfl (by decide +kernel) ?_
    refine v_icmp_gt C 40 21 rfl (by decide +kernel) (fun h11 => ?_) (fun h11 => ?_)
    · have hf := ite2_t hf h11
      refine v_iload_n C 3 2 rfl 41 rfl (by decide +kernel) ?_
      obtain ⟨rfl, rfl⟩ := ret_e hf
      exact v_iret C hr (by decide +kernel)
    · have hf := ite2_f hf h11
      refine v_aload_n C 0 0 rfl 22 rfl (by decide +kernel) ?_
      refine v_iload C 4 3 rfl 24 rfl (by decide +kernel) ?_
      refine v_iload_n C 2 1 rfl 25 rfl (by decide +kernel) ?_
      obtain ⟨r13, σ12, hcr13, hf⟩ := cl2_e hf
      refine v_cV C 9 rfl (ns_kd_lt hk_a0 (by decide)) hk_a0 (by decide) [.int x4, .int x2] [] (c_M_isThere G l σ a0 x4 x2 hcr13) 87 2 tw_1130 tw_1127 tw_1129 ts_79 tw_10 hd_M_isThere rfl ⟨(Nat.le_of_ble_eq_true rfl), (Nat.le_of_ble_eq_true rfl)⟩ ⟨(Nat.le_of_ble_eq_true rfl), (Nat.le_of_ble_eq_true rfl)⟩ (Nat.le_of_ble_eq_true rfl) rfl 28 rfl (by decide +kernel) [.int r13] rfl ?_
      refine v_if_eq C 34 31 rfl (by decide +kernel) (fun h14 => ?_) (fun h14 => ?_)
      · have hf := ite2_t hf h14
        obtain ⟨z15, hz15, hf⟩ := bnd_e hf
        refine v_iinc C 4 (1) 3 z15 rfl (by rw [hz15]; rfl) [(4, .int z15), (0, .ref (G.1 + a0)), (2, .int x2), (3, .int x3)] (by decide) rfl 37 rfl (by decide +kernel) ?_
        refine v_goto C 12 (by decide +kernel) ?_
        refine v_sub [1, 2, 3, 0] rfl ?_
        exact ih σ12 a0 x2 x3 z15 hk_a0 hf
      · have hf := ite2_f hf h14
        obtain ⟨z16, hz16, hf⟩ := bnd_e hf
        refine v_iinc C 3 (1) 2 z16 rfl (by rw [hz16]; rfl) [(3, .int z16), (0, .ref (G.1 + a0)), (2, .int x2), (4, .int x4)] (by decide) rfl 34 rfl (by decide +kernel) ?_
        obtain ⟨z17, hz17, hf⟩ := bnd_e hf
        refine v_iinc C 4 (1) 3 z17 rfl (by rw [hz17]; rfl) [(4, .int z17), (3, .int z16), (0, .ref (G.1 + a0)), (2, .int x2)] (by decide) rfl 37 rfl (by decide +kernel) ?_
        refine v_goto C 12 (by decide +kernel) ?_
        refine v_sub [2, 3, 1, 0] rfl ?_
        exact ih σ12 a0 x2 z16 z17 hk_a0 hf
theorem c_M_aheadOf (G : ns_G) (l : Launch) (σ : ns_St) (a0 : Nat) (x1 : Int32) (x2 : Int32) {r : Int32} {σ' : ns_St} (hf : g_M_aheadOf σ a0 x1 x2 = some (r, σ')) : ns_ok G l ⟨"NinthStepModel", "aheadOf", "(II)I"⟩ prog_11_method_16_code 5 (some .int) 1 22 0 0 [.ref (G.1 + a0), .int x1, .int x2] ns_N σ (some (.int r)) ns_N σ' := by
  refine v_open (by decide) (Nat.le_of_ble_eq_true rfl) rfl ?_
  intro p e s m below meth c C hr _
  have C : ns_Cx G p s m _ meth c prog_11_method_16_code "NinthStepModel" 5 := C
  unfold g_M_aheadOf at hf
  obtain ⟨hk_a0, hf⟩ := grd_e hf
  refine v_iconst C (0) (0) (by decide) 1 rfl (by decide +kernel) ?_
  refine v_istore_n C 3 [(3, .int (0 : Int32)), (0, .ref (G.1 + a0)), (1, .int x1), (2, .int x2)] (by decide) rfl 2 rfl (by decide +kernel) ?_
  refine v_aload_n C 0 1 rfl 3 rfl (by decide +kernel) ?_
  obtain ⟨b18, hb18, hf⟩ := drf_e hf
  obtain ⟨hk_b18, hf⟩ := grd_e hf
  refine v_getR C 9 8 hb18 rfl nin_9 (ns_kd_lt hk_a0 (by decide)) hk_a0 (by decide) (by decide) rfl 29 tw_983 rfl 6 rfl (by decide +kernel) ?_
  refine v_iload_n C 1 2 rfl 7 rfl (by decide +kernel) ?_
  obtain ⟨hi19, hf⟩ := grd_e hf
  refine v_iald C (ns_kd_lt hk_b18 (by decide)) hk_b18 hi19 8 rfl (by decide +kernel) ?_
  refine v_iconst C (1) (1) (by decide) 9 rfl (by decide +kernel) ?_
  refine v_iadd C 10 rfl (by decide +kernel) ?_
  obtain ⟨z20, hz20, hf⟩ := bnd_e hf
  refine v_nmI hz20 ?_
  refine v_istore C 4 [(4, .int z20), (3, .int (0 : Int32)), (0, .ref (G.1 + a0)), (1, .int x1), (2, .int x2)] (by decide) rfl 12 rfl (by decide +kernel) ?_
  refine v_sub [2, 4, 1, 0] rfl ?_
  exact t_M_aheadOf_12 G l C hr  ns_F σ a0 x2 (0 : Int32) z20 hk_a0 hf
theorem hd_M_aheadOf : (⟨"NinthStepModel", "aheadOf", "(II)I"⟩ : MethodName).cls = "NinthStepModel" ∧ (⟨"NinthStepModel", "aheadOf", "(II)I"⟩ : MethodName).cls ≠ "java/lang/invoke/MethodHandle" ∧ (⟨"NinthStepModel", "aheadOf", "(II)I"⟩ : MethodName).cls ≠ "java/lang/invoke/VarHandle" ∧ (parseMethodDescriptor (⟨"NinthStepModel", "aheadOf", "(II)I"⟩ : MethodName).desc).map (fun d => d.parameters.length) = some 2 := by decide +kernel
