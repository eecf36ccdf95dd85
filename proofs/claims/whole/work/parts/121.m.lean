def g_M_sure_293  : Nat → ns_St → Int32 → Nat → Int32 → Int32 → Option (Int32 × ns_St)
  | 0, _, _, _, _, _ => none
  | f + 1, σ, x3, a4, x5, x6 => ite2 (x3 ≤ x6) (some (x5, σ)) (grd (ns_in x6 (ns_ln a4)) <| bnd (x5 + (σ.1 a4 (ns_ix x6))) fun z72 => bnd (x6 + 1) fun z73 => (g_M_sure_293 f) σ x3 a4 z72 z73)
def g_M_sure_214 (kh88 : ns_St → Nat → Int32 → Int32 → Nat → Int32 → Option (Int32 × ns_St)) : Nat → ns_St → Nat → Int32 → Int32 → Nat → Int32 → Int32 → Int32 → Option (Int32 × ns_St)
  | 0, _, _, _, _, _, _, _, _ => none
  | f + 1, σ, a0, x2, x3, a4, x5, x7, x8 => ite2 ((80 : Int32) ≤ x8) (cl2 (g_M_isThere σ a0 x5 (4 : Int32)) fun r76 σ75 => ite2 (r76 = 0) (grd (ns_in (0 : Int32) (ns_ln a4)) <| grd (ns_in (0 : Int32) (ns_ln a4)) <| bnd (ns_pI σ75 a4 (ns_ix (0 : Int32)) ((σ75.1 a4 (ns_ix (0 : Int32))) + x7)) fun σ81 => bnd (x5 + 1) fun z82 => kh88 σ81 a0 x2 x3 a4 z82) (bnd (x5 + 1) fun z78 => kh88 σ75 a0 x2 x3 a4 z78)) (ite2 (x3 ≤ x8) (grd (ns_in ((100 : Int32) + x8) (ns_ln a4)) <| bnd (x7 + (σ.1 a4 (ns_ix ((100 : Int32) + x8)))) fun z85 => bnd (x8 + 1) fun z86 => (g_M_sure_214 kh88 f) σ a0 x2 x3 a4 x5 z85 z86) (grd (ns_in ((100 : Int32) + x8) (ns_ln a4)) <| grd (ns_in x8 (ns_ln a4)) <| bnd (ns_pI σ a4 (ns_ix x8) (σ.1 a4 (ns_ix ((100 : Int32) + x8)))) fun σ89 => bnd (x8 + 1) fun z90 => (g_M_sure_214 kh88 f) σ89 a0 x2 x3 a4 x5 x7 z90))
def g_M_sure_142 (kh88 : ns_St → Nat → Int32 → Int32 → Nat → Int32 → Option (Int32 × ns_St)) : Nat → ns_St → Nat → Int32 → Int32 → Nat → Int32 → Int32 → Int32 → Option (Int32 × ns_St)
  | 0, _, _, _, _, _, _, _, _ => none
  | f + 1, σ, a0, x2, x3, a4, x5, x6, x7 => ite2 (x3 ≤ x7) (g_M_sure_214 kh88 ns_F σ a0 x2 x3 a4 x5 (0 : Int32) (0 : Int32)) (grd (ns_in x7 (ns_ln a4)) <| bnd (((((σ.1 a4 (ns_ix x7)).toInt64) * (x2.toInt64)) / (1000 : Int64)).toInt32) fun z93 => bnd (((100 : Int32) + x7) + x6) fun z94 => grd (ns_in z94 (ns_ln a4)) <| grd (ns_in x7 (ns_ln a4)) <| grd (ns_in z94 (ns_ln a4)) <| bnd (ns_pI σ a4 (ns_ix z94) ((σ.1 a4 (ns_ix z94)) + ((σ.1 a4 (ns_ix x7)) - z93))) fun σ98 => bnd (((101 : Int32) + x7) + x6) fun z99 => grd (ns_in z99 (ns_ln a4)) <| grd (ns_in z99 (ns_ln a4)) <| bnd (ns_pI σ98 a4 (ns_ix z99) ((σ98.1 a4 (ns_ix z99)) + z93)) fun σ102 => bnd (x7 + 1) fun z103 => (g_M_sure_142 kh88 f) σ102 a0 x2 x3 a4 x5 x6 z103)
def g_M_sure_117 (kh88 : ns_St → Nat → Int32 → Int32 → Nat → Int32 → Option (Int32 × ns_St)) : Nat → ns_St → Nat → Int32 → Int32 → Nat → Int32 → Int32 → Int32 → Option (Int32 × ns_St)
  | 0, _, _, _, _, _, _, _, _ => none
  | f + 1, σ, a0, x2, x3, a4, x5, x6, x7 => ite2 ((80 : Int32) ≤ x7) (g_M_sure_142 kh88 ns_F σ a0 x2 x3 a4 x5 x6 (0 : Int32)) (grd (ns_in ((100 : Int32) + x7) (ns_ln a4)) <| bnd (ns_pI σ a4 (ns_ix ((100 : Int32) + x7)) (0 : Int32)) fun σ106 => bnd (x7 + 1) fun z107 => (g_M_sure_117 kh88 f) σ106 a0 x2 x3 a4 x5 x6 z107)
def g_M_sure_112 (kh88 : ns_St → Nat → Int32 → Int32 → Nat → Int32 → Option (Int32 × ns_St)) (σ : ns_St) (s0 : Int32) (a0 : Nat) (x2 : Int32) (x3 : Int32) (a4 : Nat) (x5 : Int32) : Option (Int32 × ns_St) := g_M_sure_117 kh88 ns_F σ a0 x2 x3 a4 x5 s0 (0 : Int32)
def g_M_sure_88  : Nat → ns_St → Nat → Int32 → Int32 → Nat → Int32 → Option (Int32 × ns_St)
  | 0, _, _, _, _, _, _ => none
  | f + 1, σ, a0, x2, x3, a4, x5 => ite2 ((σ.1 a0 3) < x5) (g_M_sure_293 ns_F σ x3 a4 (0 : Int32) (0 : Int32)) (cl2 (g_M_isThere σ a0 x5 (1 : Int32)) fun r110 σ109 => ite2 (r110 = 0) (g_M_sure_112 (g_M_sure_88 f) σ109 (1 : Int32) a0 x2 x3 a4 x5) (g_M_sure_112 (g_M_sure_88 f) σ109 (2 : Int32) a0 x2 x3 a4 x5))
def g_M_sure_42  : Nat → ns_St → Nat → Int32 → Int32 → Int32 → Nat → Int32 → Option (Int32 × ns_St)
  | 0, _, _, _, _, _, _, _ => none
  | f + 1, σ, a0, x1, x2, x3, a4, x5 => ite2 ((80 : Int32) ≤ x5) (drf (σ.2.2 a0 9) fun b113 => grd (ns_kd b113 = 10) <| grd (ns_in x1 (ns_ln b113)) <| cl2 (g_Math_min σ (σ.1 b113 (ns_ix x1)) (x3 - (1 : Int32))) fun r116 σ115 => grd (ns_in r116 (ns_ln a4)) <| bnd (ns_pI σ115 a4 (ns_ix r116) (1000000 : Int32)) fun σ118 => drf (σ118.2.2 a0 8) fun b119 => grd (ns_kd b119 = 10) <| grd (ns_in x1 (ns_ln b119)) <| bnd ((σ118.1 b119 (ns_ix x1)) + (1 : Int32)) fun z121 => g_M_sure_88 ns_F σ118 a0 x2 x3 a4 z121) (grd (ns_in x5 (ns_ln a4)) <| bnd (ns_pI σ a4 (ns_ix x5) (0 : Int32)) fun σ123 => bnd (x5 + 1) fun z124 => (g_M_sure_42 f) σ123 a0 x1 x2 x3 a4 z124)
def g_M_sure (σ : ns_St) (a0 : Nat) (x1 : Int32) (x2 : Int32) : Option (Int32 × ns_St) := grd (ns_kd a0 = 9) <| cl2 (g_M_isMule σ a0 x1) fun r126 σ125 => ite2 (r126 = 0) (cl2 (g_M_no σ125 a0 (-2 : Int32)) fun r129 σ128 => some (r129, σ128)) (cl2 (g_M_within σ125 x2 (0 : Int32) (1000 : Int32)) fun r131 σ130 => ite2 (r131 = 0) (cl2 (g_M_no σ130 a0 (-2 : Int32)) fun r138 σ137 => some (r138, σ137)) (drf (σ130.2.2 a0 7) fun b133 => grd (ns_kd b133 = 10) <| grd (ns_in x1 (ns_ln b133)) <| bnd (σ130.1 b133 (ns_ix x1)) fun z135 => drf (σ130.2.2 a0 29) fun b136 => grd (ns_kd b136 = 10) <| g_M_sure_42 ns_F σ130 a0 x1 x2 z135 b136 (0 : Int32)))
theorem t_M_sure_293 (G : ns_G) (l : Launch) {p : Program} {e : Env} {s : State} {m : MethodId} {args : Array Value} {below : List Frame} {meth : Method} {c : Code} (C : ns_Cx G p s m args meth c prog_11_method_68_code "NinthStepModel" 9) (hr : meth.sig.returnType = (some .int)) {r : Int32} {σ' : ns_St}  : ∀ (f : Nat) (σ : ns_St) (x3 : Int32) (a4 : Nat) (x5 : Int32) (x6 : Int32) (hk_a4 : ns_kd a4 = 10), g_M_sure_293 f σ x3 a4 x5 x6 = some (r, σ') → VV G p l e { frames := 2, cells := 0, slots := 0, locals := 43 } s m args below meth c 9 0 0 (MQ below (ns_Qc G (some (.int r)) ns_N σ') args s 0 0 (ns_A G)) ns_N σ 293 [(3, .int x3), (4, .ref (G.1 + a4)), (5, .int x5), (6, .int x6)] [] := by
  intro f
  induction f with
  | zero =>
    intro σ x3 a4 x5 x6 hk_a4 hf
    cases hf
  | succ f ih =>
    intro σ x3 a4 x5 x6 hk_a4 hf
    rw [g_M_sure_293] at hf
    refine v_iload C 6 3 rfl 295 rfl (by decide +kernel) ?_
    refine v_iload_n C 3 0 rfl 296 rfl (by decide +kernel) ?_
    refine v_icmp_ge C 315 299 rfl (by decide +kernel) (fun h70 => ?_) (fun h70 => ?_)
    · have hf := ite2_t hf h70
      refine v_iload C 5 2 rfl 317 rfl (by decide +kernel) ?_
      obtain ⟨rfl, rfl⟩ := ret_e hf
      exact v_iret C hr (by decide +kernel)
    · have hf := ite2_f hf h70
      refine v_iload C 5 2 rfl 301 rfl (by decide +kernel) ?_
      refine v_aload C 4 1 rfl 303 rfl (by decide +kernel) ?_
      refine v_iload C 6 3 rfl 305 rfl (by decide +kernel) ?_
      obtain ⟨hi71, hf⟩ := grd_e hf
      refine v_iald C (ns_kd_lt hk_a4 (by decide)) hk_a4 hi71 306 rfl (by decide +kernel) ?_
      refine v_iadd C 307 rfl (by decide +kernel) ?_
      obtain ⟨z72, hz72, hf⟩ := bnd_e hf
      refine v_nmI hz72 ?_
      refine v_istore C 5 [(5, .int z72), (3, .int x3), (4, .ref (G.1 + a4)), (6, .int x6)] (by decide) rfl 309 rfl (by decide +kernel) ?_
      obtain ⟨z73, hz73, hf⟩ := bnd_e hf
      refine v_iinc C 6 (1) 3 z73 rfl (by rw [hz73]; rfl) [(6, .int z73), (5, .int z72), (3, .int x3), (4, .ref (G.1 + a4))] (by decide) rfl 312 rfl (by decide +kernel) ?_
      refine v_goto C 293 (by decide +kernel) ?_
      refine v_sub [2, 3, 1, 0] rfl ?_
      exact ih σ x3 a4 z72 z73 hk_a4 hf
theorem t_M_sure_214 (G : ns_G) (l : Launch) {p : Program} {e : Env} {s : State} {m : MethodId} {args : Array Value} {below : List Frame} {meth : Method} {c : Code} (C : ns_Cx G p s m args meth c prog_11_method_68_code "NinthStepModel" 9) (hr : meth.sig.returnType = (some .int)) {r : Int32} {σ' : ns_St} {kh88 : ns_St → Nat → Int32 → Int32 → Nat → Int32 → Option (Int32 × ns_St)} (hkh88 : ∀ (σ : ns_St) (a0 : Nat) (x2 : Int32) (x3 : Int32) (a4 : Nat) (x5 : Int32), ns_kd a0 = 9 → ns_kd a4 = 10 → kh88 σ a0 x2 x3 a4 x5 = some (r, σ') → VV G p l e { frames := 2, cells := 0, slots := 0, locals := 43 } s m args below meth c 9 0 0 (MQ below (ns_Qc G (some (.int r)) ns_N σ') args s 0 0 (ns_A G)) ns_N σ 88 [(0, .ref (G.1 + a0)), (2, .int x2), (3, .int x3), (4, .ref (G.1 + a4)), (5, .int x5)] []) : ∀ (f : Nat) (σ : ns_St) (a0 : Nat) (x2 : Int32) (x3 : Int32) (a4 : Nat) (x5 : Int32) (x7 : Int32) (x8 : Int32) (hk_a0 : ns_kd a0 = 9) (hk_a4 : ns_kd a4 = 10), g_M_sure_214 kh88 f σ a0 x2 x3 a4 x5 x7 x8 = some (r, σ') → VV G p l e { frames := 2, cells := 0, slots := 0, locals := 43 } s m args below meth c 9 0 0 (MQ below (ns_Qc G (some (.int r)) ns_N σ') args s 0 0 (ns_A G)) ns_N σ 214 [(0, .ref (G.1 + a0)), (2, .int x2), (3, .int x3), (4, .ref (G.1 + a4)), (5, .int x5), (7, .int x7), (8, .int x8)] [] := by
  intro f
  induction f with
  | zero =>
    intro σ a0 x2 x3 a4 x5 x7 x8 hk_a0 hk_a4 hf
    cases hf
  | succ f ih =>
    intro σ a0 x2 x3 a4 x5 x7 x8 hk_a0 hk_a4 hf
    rw [g_M_sure_214] at hf
    refine v_iload C 8 6 rfl 216 rfl (by decide +kernel) ?_
    refine v_bipush C (80) (80) (by decide) 218 rfl (by decide +kernel) ?_
    refine v_icmp_ge C 262 221 rfl (by decide +kernel) (fun h74 => ?_) (fun h74 => ?_)
    · have hf := ite2_t hf h74
      refine v_aload_n C 0 0 rfl 263 rfl (by decide +kernel) ?_
      refine v_iload C 5 4 rfl 265 rfl (by decide +kernel) ?_
      refine v_iconst C (4) (4) (by decide) 266 rfl (by decide +kernel) ?_
      obtain ⟨r76, σ75, hcr76, hf⟩ := cl2_e hf
      refine v_cV C 9 rfl (ns_kd_lt hk_a0 (by decide)) hk_a0 (by decide) [.int x5, .int (4 : Int32)] [] (c_M_isThere G l σ a0 x5 (4 : Int32) hcr76) 87 2 tw_1130 tw_1127 tw_1129 ts_79 tw_10 hd_M_isThere rfl ⟨(Nat.le_of_ble_eq_true rfl), (Nat.le_of_ble_eq_true rfl)⟩ ⟨(Nat.le_of_ble_eq_true rfl), (Nat.le_of_ble_eq_true rfl)⟩ (Nat.le_of_ble_eq_true rfl) rfl 269 rfl (by decide +kernel) [.int r76] rfl ?_
      refine v_if_ne C 281 272 rfl (by decide +kernel) (fun h77 => ?_) (fun h77 => ?_)
      · have hf := ite2_f hf h77
        obtain ⟨z78, hz78, hf⟩ := bnd_e hf
        refine v_iinc C 5 (1) 4 z78 rfl (by rw [hz78]; rfl) [(5, .int z78), (0, .ref (G.1 + a0)), (2, .int x2), (3, .int x3), (4, .ref (G.1 + a4)), (7, .int x7), (8, .int x8)] (by decide) rfl 284 rfl (by decide +kernel) ?_
        refine v_goto C 88 (by decide +kernel) ?_
        refine v_sub [1, 2, 3, 4, 0] rfl ?_
        exact hkh88 σ75 a0 x2 x3 a4 z78 hk_a0 hk_a4 hf
      · have hf := ite2_t hf h77
        refine v_aload C 4 3 rfl 274 rfl (by decide +kernel) ?_
        refine v_iconst C (0) (0) (by decide) 275 rfl (by decide +kernel) ?_
        refine v_dup2_11 C rfl rfl 276 rfl (by decide +kernel) ?_
        obtain ⟨hi79, hf⟩ := grd_e hf
        refine v_iald C (ns_kd_lt hk_a4 (by decide)) hk_a4 hi79 277 rfl (by decide +kernel) ?_
        refine v_iload C 7 5 rfl 279 rfl (by decide +kernel) ?_
        refine v_iadd C 280 rfl (by decide +kernel) ?_
        obtain ⟨hi80, hf⟩ := grd_e hf
        obtain ⟨σ81, hσ81, hf⟩ := bnd_e hf
        refine v_iast C hσ81 (ns_kd_lt hk_a4 (by decide)) hk_a4 hi80 281 rfl (by decide +kernel) ?_
        obtain ⟨z82, hz82, hf⟩ := bnd_e hf
        refine v_iinc C 5 (1) 4 z82 rfl (by rw [hz82]; rfl) [(5, .int z82), (0, .ref (G.1 + a0)), (2, .int x2), (3, .int x3), (4, .ref (G.1 + a4)), (7, .int x7), (8, .int x8)] (by decide) rfl 284 rfl (by decide +kernel) ?_
        refine v_goto C 88 (by decide +kernel) ?_
        refine v_sub [1, 2, 3, 4, 0] rfl ?_
        exact hkh88 σ81 a0 x2 x3 a4 z82 hk_a0 hk_a4 hf
    · have hf := ite2_f hf h74
      refine v_iload C 8 6 rfl 223 rfl (by decide +kernel) ?_
      refine v_iload_n C 3 2 rfl 224 rfl (by decide +kernel) ?_
      refine v_icmp_ge C 243 227 rfl (by decide +kernel) (fun h83 => ?_) (fun h83 => ?_)
      · have hf := ite2_t hf h83
        refine v_iload C 7 5 rfl 245 rfl (by decide +kernel) ?_
        refine v_aload C 4 3 rfl 247 rfl (by decide +kernel) ?_
        refine v_bipush C (100) (100) (by decide) 249 rfl (by decide +kernel) ?_
        refine v_iload C 8 6 rfl 251 rfl (by decide +kernel) ?_
        refine v_iadd C 252 rfl (by decide +kernel) ?_
        obtain ⟨hi84, hf⟩ := grd_e hf
        refine v_iald C (ns_kd_lt hk_a4 (by decide)) hk_a4 hi84 253 rfl (by decide +kernel) ?_
        refine v_iadd C 254 rfl (by decide +kernel) ?_
        obtain ⟨z85, hz85, hf⟩ := bnd_e hf
        refine v_nmI hz85 ?_
        refine v_istore C 7 [(7, .int z85), (0, .ref (G.1 + a0)), (2, .int x2), (3, .int x3), (4, .ref (G.1 + a4)), (5, .int x5), (8, .int x8)] (by decide) rfl 256 rfl (by decide +kernel) ?_
        obtain ⟨z86, hz86, hf⟩ := bnd_e hf
        refine v_iinc C 8 (1) 6 z86 rfl (by rw [hz86]; rfl) [(8, .int z86), (7, .int z85), (0, .ref (G.1 + a0)), (2, .int x2), (3, .int x3), (4, .ref (G.1 + a4)), (5, .int x5)] (by decide) rfl 259 rfl (by decide +kernel) ?_
        refine v_goto C 214 (by decide +kernel) ?_
        refine v_sub [2, 3, 4, 5, 6, 1, 0] rfl ?_
        exact ih σ a0 x2 x3 a4 x5 z85 z86 hk_a0 hk_a4 hf
      · have hf := ite2_f hf h83
        refine v_aload C 4 3 rfl 229 rfl (by decide +kernel) ?_
        refine v_iload C 8 6 rfl 231 rfl (by decide +kernel) ?_
        refine v_aload C 4 3 rfl 233 rfl (by decide +kernel) ?_
        refine v_bipush C (100) (100) (by decide) 235 rfl (by decide +kernel) ?_
        refine v_iload C 8 6 rfl 237 rfl (by decide +kernel) ?_
        refine v_iadd C 238 rfl (by decide +kernel) ?_
        obtain ⟨hi87, hf⟩ := grd_e hf
        refine v_iald C (ns_kd_lt hk_a4 (by decide)) hk_a4 hi87 239 rfl (by decide +kernel) ?_
        obtain ⟨hi88, hf⟩ := grd_e hf
        obtain ⟨σ89, hσ89, hf⟩ := bnd_e hf
        refine v_iast C hσ89 (ns_kd_lt hk_a4 (by decide)) hk_a4 hi88 240 rfl (by decide +kernel) ?_
        refine v_goto C 256 (by decide +kernel) ?_
        obtain ⟨z90, hz90, hf⟩ := bnd_e hf
        refine v_iinc C 8 (1) 6 z90 rfl (by rw [hz90]; rfl) [(8, .int z90), (0, .ref (G.1 + a0)), (2, .int x2), (3, .int x3), (4, .ref (G.1 + a4)), (5, .int x5), (7, .int x7)] (by decide) rfl 259 rfl (by decide +kernel) ?_
        refine v_goto C 214 (by decide +kernel) ?_
        refine v_sub [1, 2, 3, 4, 5, 6, 0] rfl ?_
        exact ih σ89 a0 x2 x3 a4 x5 x7 z90 hk_a0 hk_a4 hf
theorem t_M_sure_142 (G : ns_G) (l : Launch) {p : Program} {e : Env} {s : State} {m : MethodId} {args : Array Value} {below : List Frame} {meth : Method} {c : Code} (C : ns_Cx G p s m args meth c prog_11_method_68_code "NinthStepModel" 9) (hr : meth.sig.returnType = (some .int)) {r : Int32} {σ' : ns_St} {kh88 : ns_St → Nat → Int32 → Int32 → Nat → Int32 → Option (Int32 × ns_St)} (hkh88 : ∀ (σ : ns_St) (a0 : Nat) (x2 : Int32) (x3 : Int32) (a4 : Nat) (x5 : Int32), ns_kd a0 = 9 → ns_kd a4 = 10 → kh88 σ a0 x2 x3 a4 x5 = some (r, σ') → VV G p l e { frames := 2, cells := 0, slots := 0, locals := 43 } s m args below meth c 9 0 0 (MQ below (ns_Qc G (some (.int r)) ns_N σ') args s 0 0 (ns_A G)) ns_N σ 88 [(0, .ref (G.1 + a0)), (2, .int x2), (3, .int x3), (4, .ref (G.1 + a4)), (5, .int x5)] []) : ∀ (f : Nat) (σ : ns_St) (a0 : Nat) (x2 : Int32) (x3 : Int32) (a4 : Nat) (x5 : Int32) (x6 : Int32) (x7 : Int32) (hk_a0 : ns_kd a0 = 9) (hk_a4 : ns_kd a4 = 10), g_M_sure_142 kh88 f σ a0 x2 x3 a4 x5 x6 x7 = some (r, σ') → VV G p l e { frames := 2, cells := 0, slots := 0, locals := 43 } s m args below meth c 9 0 0 (MQ below (ns_Qc G (some (.int r)) ns_N σ') args s 0 0 (ns_A G)) ns_N σ 142 [(0, .ref (G.1 + a0)), (2, .int x2), (3, .int x3), (4, .ref (G.1 + a4)), (5, .int x5), (6, .int x6), (7, .int x7)] [] := by
  intro f
  induction f with
  | zero =>
    intro σ a0 x2 x3 a4 x5 x6 x7 hk_a0 hk_a4 hf
    cases hf
  | succ f ih =>
    intro σ a0 x2 x3 a4 x5 x6 x7 hk_a0 hk_a4 hf
    rw [g_M_sure_142] at hf
    refine v_iload C 7 6 rfl 144 rfl (by decide +kernel) ?_
    refine v_iload_n C 3 2 rfl 145 rfl (by decide +kernel) ?_
    refine v_icmp_ge C 208 148 rfl (by decide +kernel) (fun h91 => ?_) (fun h91 => ?_)
    · have hf := ite2_t hf h91
      refine v_iconst C (0) (0) (by decide) 209 rfl (by decide +kernel) ?_
      refine v_istore C 7 [(7, .int (0 : Int32)), (0, .ref (G.1 + a0)), (2, .int x2), (3, .int x3), (4, .ref (G.1 + a4)), (5, .int x5), (6, .int x6)] (by decide) rfl 211 rfl (by decide +kernel) ?_
      refine v_iconst C (0) (0) (by decide) 212 rfl (by decide +kernel) ?_
      refine v_istore C 8 [(8, .int (0 : Int32)), (7, .int (0 : Int32)), (0, .ref (G.1 + a0)), (2, .int x2), (3, .int x3), (4, .ref (G.1 + a4)), (5, .int x5), (6, .int x6)] (by decide) rfl 214 rfl (by decide +kernel) ?_
      refine v_sub [2, 3, 4, 5, 6, 1, 0] rfl ?_
      exact t_M_sure_214 G l C hr hkh88 ns_F σ a0 x2 x3 a4 x5 (0 : Int32) (0 : Int32) hk_a0 hk_a4 hf
    · have hf := ite2_f hf h91
      refine v_aload C 4 3 rfl 150 rfl (by decide +kernel) ?_
      refine v_iload C 7 6 rfl 152 rfl (by decide +kernel) ?_
      obtain ⟨hi92, hf⟩ := grd_e hf
      refine v_iald C (ns_kd_lt hk_a4 (by decide)) hk_a4 hi92 153 rfl (by decide +kernel) ?_
      refine v_i2l C 154 rfl (by decide +kernel) ?_
      refine v_iload_n C 2 1 rfl 155 rfl (by decide +kernel) ?_
      refine v_i2l C 156 rfl (by decide +kernel) ?_
      refine v_lmul C 157 rfl (by decide +kernel) ?_
      refine v_ldc2 C 247 (1000) tw_1354 160 rfl (by decide +kernel) ?_
      refine v_ldiv C (by decide) 161 rfl (by decide +kernel) ?_
      refine v_l2i C 162 rfl (by decide +kernel) ?_
      obtain ⟨z93, hz93, hf⟩ := bnd_e hf
      refine v_nmI hz93 ?_
      refine v_istore C 8 [(8, .int z93), (0, .ref (G.1 + a0)), (2, .int x2), (3, .int x3), (4, .ref (G.1 + a4)), (5, .int x5), (6, .int x6), (7, .int x7)] (by decide) rfl 164 rfl (by decide +kernel) ?_
      refine v_aload C 4 4 rfl 166 rfl (by decide +kernel) ?_
      refine v_bipush C (100) (100) (by decide) 168 rfl (by decide +kernel) ?_
      refine v_iload C 7 7 rfl 170 rfl (by decide +kernel) ?_
      refine v_iadd C 171 rfl (by decide +kernel) ?_
      refine v_iload C 6 6 rfl 173 rfl (by decide +kernel) ?_
      refine v_iadd C 174 rfl (by decide +kernel) ?_
      obtain ⟨z94, hz94, hf⟩ := bnd_e hf
      refine v_nmI hz94 ?_
      refine v_dup2_11 C rfl rfl 175 rfl (by decide +kernel) ?_
      obtain ⟨hi95, hf⟩ := grd_e hf
      refine v_iald C (ns_kd_lt hk_a4 (by decide)) hk_a4 hi95 176 rfl (by decide +kernel) ?_
      refine v_aload C 4 4 rfl 178 rfl (by decide +kernel) ?_
      refine v_iload C 7 7 rfl 180 rfl (by decide +kernel) ?_
      obtain ⟨hi96, hf⟩ := grd_e hf
      refine v_iald C (ns_kd_lt hk_a4 (by decide)) hk_a4 hi96 181 rfl (by decide +kernel) ?_
      refine v_iload C 8 0 rfl 183 rfl (by decide +kernel) ?_
      refine v_isub C 184 rfl (by decide +kernel) ?_
      refine v_iadd C 185 rfl (by decide +kernel) ?_
      obtain ⟨hi97, hf⟩ := grd_e hf
      obtain ⟨σ98, hσ98, hf⟩ := bnd_e hf
      refine v_iast C hσ98 (ns_kd_lt hk_a4 (by decide)) hk_a4 hi97 186 rfl (by decide +kernel) ?_
      refine v_aload C 4 4 rfl 188 rfl (by decide +kernel) ?_
      refine v_bipush C (101) (101) (by decide) 190 rfl (by decide +kernel) ?_
      refine v_iload C 7 7 rfl 192 rfl (by decide +kernel) ?_
      refine v_iadd C 193 rfl (by decide +kernel) ?_
      refine v_iload C 6 6 rfl 195 rfl (by decide +kernel) ?_
      refine v_iadd C 196 rfl (by decide +kernel) ?_
      obtain ⟨z99, hz99, hf⟩ := bnd_e hf
      refine v_nmI hz99 ?_
      refine v_dup2_11 C rfl rfl 197 rfl (by decide +kernel) ?_
      obtain ⟨hi100, hf⟩ := grd_e hf
      refine v_iald C (ns_kd_lt hk_a4 (by decide)) hk_a4 hi100 198 rfl (by decide +kernel) ?_
      refine v_iload C 8 0 rfl 200 rfl (by decide +kernel) ?_
      refine v_iadd C 201 rfl (by decide +kernel) ?_
      obtain ⟨hi101, hf⟩ := grd_e hf
      obtain ⟨σ102, hσ102, hf⟩ := bnd_e hf
      refine v_iast C hσ102 (ns_kd_lt hk_a4 (by decide)) hk_a4 hi101 202 rfl (by decide +kernel) ?_
      obtain ⟨z103, hz103, hf⟩ := bnd_e hf
      refine v_iinc C 7 (1) 7 z103 rfl (by rw [hz103]; rfl) [(7, .int z103), (8, .int z93), (0, .ref (G.1 + a0)), (2, .int x2), (3, .int x3), (4, .ref (G.1 + a4)), (5, .int x5), (6, .int x6)] (by decide) rfl 205 rfl (by decide +kernel) ?_
      refine v_goto C 142 (by decide +kernel) ?_
      refine v_sub [2, 3, 4, 5, 6, 7, 0] rfl ?_
      exact ih σ102 a0 x2 x3 a4 x5 x6 z103 hk_a0 hk_a4 hf
theorem t_M_sure_117 (G : ns_G) (l : Launch) {p : Program} {e : Env} {s : State} {m : MethodId} {args : Array Value} {below : List Frame} {meth : Method} {c : Code} (C : ns_Cx G p s m args meth c prog_11_method_68_code "NinthStepModel" 9) (hr : meth.sig.returnType = (some .int)) {r : Int32} {σ' : ns_St} {kh88 : ns_St → Nat → Int32 → Int32 → Nat → Int32 → Option (Int32 × ns_St)} (hkh88 : ∀ (σ : ns_St) (a0 : Nat) (x2 : Int32) (x3 : Int32) (a4 : Nat) (x5 : Int32), ns_kd a0 = 9 → ns_kd a4 = 10 → kh88 σ a0 x2 x3 a4 x5 = some (r, σ') → VV G p l e { frames := 2, cells := 0, slots := 0, locals := 43 } s m args below meth c 9 0 0 (MQ below (ns_Qc G (some (.int r)) ns_N σ') args s 0 0 (ns_A G)) ns_N σ 88 [(0, .ref (G.1 + a0)), (2, .int x2), (3, .int x3), (4, .ref (G.1 + a4)), (5, .int x5)] []) : ∀ (f : Nat) (σ : ns_St) (a0 : Nat) (x2 : Int32) (x3 : Int32) (a4 : Nat) (x5 : Int32) (x6 : Int32) (x7 : Int32) (hk_a0 : ns_kd a0 = 9) (hk_a4 : ns_kd a4 = 10), g_M_sure_117 kh88 f σ a0 x2 x3 a4 x5 x6 x7 = some (r, σ') → VV G p l e { frames := 2, cells := 0, slots := 0, locals := 43 } s m args below meth c 9 0 0 (MQ below (ns_Qc G (some (.int r)) ns_N σ') args s 0 0 (ns_A G)) ns_N σ 117 [(0, .ref (G.1 + a0)), (2, .int x2), (3, .int x3), (4, .ref (G.1 + a4)), (5, .int x5), (6, .int x6), (7, .int x7)] [] := by
  intro f
  induction f with
  | zero =>
    intro σ a0 x2 x3 a4 x5 x6 x7 hk_a0 hk_a4 hf
    cases hf
  | succ f ih =>
    intro σ a0 x2 x3 a4 x5 x6 x7 hk_a0 hk_a4 hf
    rw [g_M_sure_117] at hf
    refine v_iload C 7 6 rfl 119 rfl (by decide +kernel) ?_
    refine v_bipush C (80) (80) (by decide) 121 rfl (by decide +kernel) ?_
    refine v_icmp_ge C 139 124 rfl (by decide +kernel) (fun h104 => ?_) (fun h104 => ?_)
    · have hf := ite2_t hf h104
      refine v_iconst C (0) (0) (by decide) 140 rfl (by decide +kernel) ?_
      refine v_istore C 7 [(7, .int (0 : Int32)), (0, .ref (G.1 + a0)), (2, .int x2), (3, .int x3), (4, .ref (G.1 + a4)), (5, .int x5), (6, .int x6)] (by decide) rfl 142 rfl (by decide +kernel) ?_
      refine v_sub [1, 2, 3, 4, 5, 6, 0] rfl ?_
      exact t_M_sure_142 G l C hr hkh88 ns_F σ a0 x2 x3 a4 x5 x6 (0 : Int32) hk_a0 hk_a4 hf
    · have hf := ite2_f hf h104
      refine v_aload C 4 3 rfl 126 rfl (by decide +kernel) ?_
      refine v_bipush C (100) (100) (by decide) 128 rfl (by decide +kernel) ?_
      refine v_iload C 7 6 rfl 130 rfl (by decide +kernel) ?_
      refine v_iadd C 131 rfl (by decide +kernel) ?_
      refine v_iconst C (0) (0) (by decide) 132 rfl (by decide +kernel) ?_
      obtain ⟨hi105, hf⟩ := grd_e hf
      obtain ⟨σ106, hσ106, hf⟩ := bnd_e hf
      refine v_iast C hσ106 (ns_kd_lt hk_a4 (by decide)) hk_a4 hi105 133 rfl (by decide +kernel) ?_
      obtain ⟨z107, hz107, hf⟩ := bnd_e hf
      refine v_iinc C 7 (1) 6 z107 rfl (by rw [hz107]; rfl) [(7, .int z107), (0, .ref (G.1 + a0)), (2, .int x2), (3, .int x3), (4, .ref (G.1 + a4)), (5, .int x5), (6, .int x6)] (by decide) rfl 136 rfl (by decide +kernel) ?_
      refine v_goto C 117 (by decide +kernel) ?_
      refine v_sub [1, 2, 3, 4, 5, 6, 0] rfl ?_
      exact ih σ106 a0 x2 x3 a4 x5 x6 z107 hk_a0 hk_a4 hf
theorem t_M_sure_112 (G : ns_G) (l : Launch) {p : Program} {e : Env} {s : State} {m : MethodId} {args : Array Value} {below : List Frame} {meth : Method} {c : Code} (C : ns_Cx G p s m args meth c prog_11_method_68_code "NinthStepModel" 9) (hr : meth.sig.returnType = (some .int)) {r : Int32} {σ' : ns_St} {kh88 : ns_St → Nat → Int32 → Int32 → Nat → Int32 → Option (Int32 × ns_St)} (hkh88 : ∀ (σ : ns_St) (a0 : Nat) (x2 : Int32) (x3 : Int32) (a4 : Nat) (x5 : Int32), ns_kd a0 = 9 → ns_kd a4 = 10 → kh88 σ a0 x2 x3 a4 x5 = some (r, σ') → VV G p l e { frames := 2, cells := 0, slots := 0, locals := 43 } s m args below meth c 9 0 0 (MQ below (ns_Qc G (some (.int r)) ns_N σ') args s 0 0 (ns_A G)) ns_N σ 88 [(0, .ref (G.1 + a0)), (2, .int x2), (3, .int x3), (4, .ref (G.1 + a4)), (5, .int x5)] []) (σ : ns_St) (s0 : Int32) (a0 : Nat) (x2 : Int32) (x3 : Int32) (a4 : Nat) (x5 : Int32) (hk_a0 : ns_kd a0 = 9) (hk_a4 : ns_kd a4 = 10) (hf : g_M_sure_112 kh88 σ s0 a0 x2 x3 a4 x5 = some (r, σ')) : VV G p l e { frames := 2, cells := 0, slots := 0, locals := 43 } s m args below meth c 9 0 0 (MQ below (ns_Qc G (some (.int r)) ns_N σ') args s 0 0 (ns_A G)) ns_N σ 112 [(0, .ref (G.1 + a0)), (2, .int x2), (3, .int x3), (4, .ref (G.1 + a4)), (5, .int x5)] [.int s0] := by
  unfold g_M_sure_112 at hf
  refine v_istore C 6 [(6, .int s0), (0, .ref (G.1 + a0)), (2, .int x2), (3, .int x3), (4, .ref (G.1 + a4)), (5, .int x5)] (by decide) rfl 114 rfl (by decide +kernel) ?_
  refine v_iconst C (0) (0) (by decide) 115 rfl (by decide +kernel) ?_
  refine v_istore C 7 [(7, .int (0 : Int32)), (6, .int s0), (0, .ref (G.1 + a0)), (2, .int x2), (3, .int x3), (4, .ref (G.1 + a4)), (5, .int x5)] (by decide) rfl 117 rfl (by decide +kernel) ?_
  refine v_sub [2, 3, 4, 5, 6, 1, 0] rfl ?_
  exact t_M_sure_117 G l C hr hkh88 ns_F σ a0 x2 x3 a4 x5 s0 (0 : Int32) hk_a0 hk_a4 hf
theorem t_M_sure_88 (G : ns_G) (l : Launch) {p : Program} {e : Env} {s : State} {m : MethodId} {args : Array Value} {below : List Frame} {meth : Method} {c : Code} (C : ns_Cx G p s m args meth c prog_11_method_68_code "NinthStepModel" 9) (hr : meth.sig.returnType = (some .int)) {r : Int32} {σ' : ns_St}  : ∀ (f : Nat) (σ : ns_St) (a0 : Nat) (x2 : Int32) (x3 : Int32) (a4 : Nat) (x5 : Int32) (hk_a0 : ns_kd a0 = 9) (hk_a4 : ns_kd a4 = 10), g_M_sure_88 f σ a0 x2 x3 a4 x5 = some (r, σ') → VV G p l e { frames := 2, cells := 0, slots := 0, locals := 43 } s m args below meth c 9 0 0 (MQ below (ns_Qc G (some (.int r)) ns_N σ') args s 0 0 (ns_A G)) ns_N σ 88 [(0, .ref (G.1 + a0)), (2, .int x2), (3, .int x3), (4, .ref (G.1 + a4)), (5, .int x5)] [] := by
  intro f
  induction f with
  | zero =>
    intro σ a0 x2 x3 a4 x5 hk_a0 hk_a4 hf
    cases hf
  | succ f ih =>
    intro σ a0 x2 x3 a4 x5 hk_a0 hk_a4 hf
    rw [g_M_sure_88] at hf
    refine v_iload C 5 4 rfl 90 rfl (by decide +kernel) ?_
    refine v_aload_n C 0 0 rfl 91 rfl (by decide +kernel) ?_
    refine v_getI C 9 3 rfl nin_9 (ns_kd_lt hk_a0 (by decide)) hk_a0 (by decide) (by decide) rfl 59 tw_978 rfl 94 rfl (by decide +kernel) ?_
    refine v_icmp_gt C 287 97 rfl (by decide +kernel) (fun h108 => ?_) (fun h108 => ?_)
    · have hf := ite2_t hf h108
      refine v_iconst C (0) (0) (by decide) 288 rfl (by decide +kernel) ?_
      refine v_istore C 5 [(5, .int (0 : Int32)), (0, .ref (G.1 + a0)), (2, .int x2), (3, .int x3), (4, .ref (G.1 + a4))] (by decide) rfl 290 rfl (by decide +kernel) ?_
      refine v_iconst C (0) (0) (by decide) 291 rfl (by decide +kernel) ?_
      refine v_istore C 6 [(6, .int (0 : Int32)), (5, .int (0 : Int32)), (0, .ref (G.1 + a0)), (2, .int x2), (3, .int x3), (4, .ref (G.1 + a4))] (by decide) rfl 293 rfl (by decide +kernel) ?_
      refine v_sub [4, 5, 1, 0] rfl ?_
      exact t_M_sure_293 G l C hr  ns_F σ x3 a4 (0 : Int32) (0 : Int32) hk_a4 hf
    · have hf := ite2_f hf h108
      refine v_aload_n C 0 0 rfl 98 rfl (by decide +kernel) ?_
      refine v_iload C 5 4 rfl 100 rfl (by decide +kernel) ?_
      refine v_iconst C (1) (1) (by decide) 101 rfl (by decide +kernel) ?_
      obtain ⟨r110, σ109, hcr110, hf⟩ := cl2_e hf
      refine v_cV C 9 rfl (ns_kd_lt hk_a0 (by decide)) hk_a0 (by decide) [.int x5, .int (1 : Int32)] [] (c_M_isThere G l σ a0 x5 (1 : Int32) hcr110) 87 2 tw_1130 tw_1127 tw_1129 ts_79 tw_10 hd_M_isThere rfl ⟨(Nat.le_of_ble_eq_true rfl), (Nat.le_of_ble_eq_true rfl)⟩ ⟨(Nat.le_of_ble_eq_true rfl), (Nat.le_of_ble_eq_true rfl)⟩ (Nat.le_of_ble_eq_true rfl) rfl 104 rfl (by decide +kernel) [.int r110] rfl ?_
      refine v_if_eq C 111 107 rfl (by decide +kernel) (fun h111 => ?_) (fun h111 => ?_)
      · have hf := ite2_t hf h111
        refine v_iconst C (1) (1) (by decide) 112 rfl (by decide +kernel) ?_
        exact t_M_sure_112 G l C hr ih σ109 (1 : Int32) a0 x2 x3 a4 x5 hk_a0 hk_a4 hf
      · have hf := ite2_f hf h111
        refine v_iconst C (2) (2) (by decide) 108 rfl (by decide +kernel) ?_
        refine v_goto C 112 (by decide +kernel) ?_
        exact t_M_sure_112 G l C hr ih σ109 (2 : Int32) a0 x2 x3 a4 x5 hk_a0 hk_a4 hf
theorem t_M_sure_42 (G : ns_G) (l : Launch) {p : Program} {e : Env} {s : State} {m : MethodId} {args : Array Value} {below : List Frame} {meth : Method} {c : Code} (C : ns_Cx G p s m args meth c prog_11_method_68_code "NinthStepModel" 9) (hr : meth.sig.returnType = (some .int)) {r : Int32} {σ' : ns_St}  : ∀ (f : Nat) (σ : ns_St) (a0 : Nat) (x1 : Int32) (x2 : Int32) (x3 : Int32) (a4 : Nat) (x5 : Int32) (hk_a0 : ns_kd a0 = 9) (hk_a4 : ns_kd a4 = 10), g_M_sure_42 f σ a0 x1 x2 x3 a4 x5 = some (r, σ') → VV G p l e { frames := 2, cells := 0, slots := 0, locals := 43 } s m args below meth c 9 0 0 (MQ below (ns_Qc G (some (.int r)) ns_N σ') args s 0 0 (ns_A G)) ns_N σ 42 [(0, .ref (G.1 + a0)), (1, .int x1), (2, .int x2), (3, .int x3), (4, .ref (G.1 + a4)), (5, .int x5)] [] := by
  intro f
  induction f with
  | zero =>
    intro σ a0 x1 x2 x3 a4 x5 hk_a0 hk_a4 hf
    cases hf
  | succ f ih =>
    intro σ a0 x1 x2 x3 a4 x5 hk_a0 hk_a4 hf
    rw [g_M_sure_42] at hf
    refine v_iload C 5 5 rfl 44 rfl (by decide +kernel) ?_
    refine v_bipush C (80) (80) (by decide) 46 rfl (by decide +kernel) ?_
    refine v_icmp_ge C 61 49 rfl (by decide +kernel) (fun h112 => ?_) (fun h112 => ?_)
    · have hf := ite2_t hf h112
      refine v_aload C 4 4 rfl 63 rfl (by decide +kernel) ?_
      refine v_aload_n C 0 0 rfl 64 rfl (by decide +kernel) ?_
      obtain ⟨b113, hb113, hf⟩ := drf_e hf
      obtain ⟨hk_b113, hf⟩ := grd_e hf
      refine v_getR C 9 9 hb113 rfl nin_9 (ns_kd_lt hk_a0 (by decide)) hk_a0 (by decide) (by decide) rfl 32 tw_984 rfl 67 rfl (by decide +kernel) ?_
      refine v_iload_n C 1 1 rfl 68 rfl (by decide +kernel) ?_
      obtain ⟨hi114, hf⟩ := grd_e hf
      refine v_iald C (ns_kd_lt hk_b113 (by decide)) hk_b113 hi114 69 rfl (by decide +kernel) ?_
      refine v_iload_n C 3 3 rfl 70 rfl (by decide +kernel) ?_
      refine v_iconst C (1) (1) (by decide) 71 rfl (by decide +kernel) ?_
      refine v_isub C 72 rfl (by decide +kernel) ?_
      obtain ⟨r116, σ115, hcr116, hf⟩ := cl2_e hf
      refine v_cS C [.int (σ.1 b113 (ns_ix x1)), .int (x3 - (1 : Int32))] [.ref (G.1 + a4)] (c_Math_min G l σ (σ.1 b113 (ns_ix x1)) (x3 - (1 : Int32)) hcr116) 200 2 tw_663 tw_1251 tw_662 tw_18 hd_Math_min rfl ⟨(Nat.le_of_ble_eq_true rfl), (Nat.le_of_ble_eq_true rfl)⟩ ⟨(Nat.le_of_ble_eq_true rfl), (Nat.le_of_ble_eq_true rfl)⟩ (Nat.le_of_ble_eq_true rfl) rfl 75 rfl (by decide +kernel) [.int r116, .ref (G.1 + a4)] rfl ?_
      refine v_ldc C 246 (1000000) tw_1353 77 rfl (by decide +kernel) ?_
      obtain ⟨hi117, hf⟩ := grd_e hf
      obtain ⟨σ118, hσ118, hf⟩ := bnd_e hf
      refine v_iast C hσ118 (ns_kd_lt hk_a4 (by decide)) hk_a4 hi117 78 rfl (by decide +kernel) ?_
      refine v_aload_n C 0 0 rfl 79 rfl (by decide +kernel) ?_
      obtain ⟨b119, hb119, hf⟩ := drf_e hf
      obtain ⟨hk_b119, hf⟩ := grd_e hf
      refine v_getR C 9 8 hb119 rfl nin_9 (ns_kd_lt hk_a0 (by decide)) hk_a0 (by decide) (by decide) rfl 29 tw_983 rfl 82 rfl (by decide +kernel) ?_
      refine v_iload_n C 1 1 rfl 83 rfl (by decide +kernel) ?_
      obtain ⟨hi120, hf⟩ := grd_e hf
      refine v_iald C (ns_kd_lt hk_b119 (by decide)) hk_b119 hi120 84 rfl (by decide +kernel) ?_
      refine v_iconst C (1) (1) (by decide) 85 rfl (by decide +kernel) ?_
      refine v_iadd C 86 rfl (by decide +kernel) ?_
      obtain ⟨z121, hz121, hf⟩ := bnd_e hf
      refine v_nmI hz121 ?_
      refine v_istore C 5 [(5, .int z121), (0, .ref (G.1 + a0)), (1, .int x1), (2, .int x2), (3, .int x3), (4, .ref (G.1 + a4))] (by decide) rfl 88 rfl (by decide +kernel) ?_
      refine v_sub [1, 3, 4, 5, 0] rfl ?_
      exact t_M_sure_88 G l C hr  ns_F σ118 a0 x2 x3 a4 z121 hk_a0 hk_a4 hf
    · have hf := ite2_f hf h112
      refine v_aload C 4 4 rfl 51 rfl (by decide +kernel) ?_
      refine v_iload C 5 5 rfl 53 rfl (by decide +kernel) ?_
      refine v_iconst C (0) (0) (by decide) 54 rfl (by decide +kernel) ?_
      obtain ⟨hi122, hf⟩ := grd_e hf
      obtain ⟨σ123, hσ123, hf⟩ := bnd_e hf
      refine v_iast C hσ123 (ns_kd_lt hk_a4 (by decide)) hk_a4 hi122 55 rfl (by decide +kernel) ?_
      obtain ⟨z124, hz124, hf⟩ := bnd_e hf
      refine v_iinc C 5 (1) 5 z124 rfl (by rw [hz124]; rfl) [(5, .int z124), (0, .ref (G.1 + a0)), (1, .int x1), (2, .int x2), (3, .int x3), (4, .ref (G.1 + a4))] (by decide) rfl 58 rfl (by decide +kernel) ?_
      refine v_goto C 42 (by decide +kernel) ?_
      refine v_sub [1, 2, 3, 4, 5, 0] rfl ?_
      exact ih σ123 a0 x1 x2 x3 a4 z124 hk_a0 hk_a4 hf
theorem c_M_sure (G : ns_G) (l : Launch) (σ : ns_St) (a0 : Nat) (x1 : Int32) (x2 : Int32) {r : Int32} {σ' : ns_St} (hf : g_M_sure σ a0 x1 x2 = some (r, σ')) : ns_ok G l ⟨"NinthStepModel", "sure", "(II)I"⟩ prog_11_method_68_code 9 (some .int) 2 43 0 0 [.ref (G.1 + a0), .int x1, .int x2] ns_N σ (some (.int r)) ns_N σ' := by
  refine v_open (by decide) (Nat.le_of_ble_eq_true rfl) rfl ?_
  intro p e s m below meth c C hr _
  have C : ns_Cx G p s m _ meth c prog_11_method_68_code "NinthStepModel" 9 := C
  unfold g_M_sure at hf
  obtain ⟨hk_a0, hf⟩ := grd_e hf
  refine v_aload_n C 0 0 rfl 1 rfl (by decide +kernel) ?_
  refine v_iload_n C 1 1 rfl 2 rfl (by decide +kernel) ?_
  obtain ⟨r126, σ125, hcr126, hf⟩ := cl2_e hf
  refine v_cV C 9 rfl (ns_kd_lt hk_a0 (by decide)) hk_a0 (by decide) [.int x1] [] (c_M_isMule G l σ a0 x1 hcr126) 84 1 tw_1111 tw_1108 tw_1110 ts_76 tw_10 hd_M_isMule rfl ⟨(Nat.le_of_ble_eq_true rfl), (Nat.le_of_ble_eq_true rfl)⟩ ⟨(Nat.le_of_ble_eq_true rfl), (Nat.le_of_ble_eq_true rfl)⟩ (Nat.le_of_ble_eq_true rfl) rfl 5 rfl (by decide +kernel) [.int r126] rfl ?_
  refine v_if_eq C 19 8 rfl (by decide +kernel) (fun h127 => ?_) (fun h127 => ?_)
  · have hf := ite2_t hf h127
    refine v_aload_n C 0 0 rfl 20 rfl (by decide +kernel) ?_
    refine v_bipush C (-2) (-2) (by decide) 22 rfl (by decide +kernel) ?_
    obtain ⟨r129, σ128, hcr129, hf⟩ := cl2_e hf
    refine v_cV C 9 rfl (ns_kd_lt hk_a0 (by decide)) hk_a0 (by decide) [.int (-2 : Int32)] [] (c_M_no G l σ125 a0 (-2 : Int32) hcr129) 73 1 tw_1079 tw_1076 tw_1078 ts_73 tw_10 hd_M_no rfl ⟨(Nat.le_of_ble_eq_true rfl), (Nat.le_of_ble_eq_true rfl)⟩ ⟨(Nat.le_of_ble_eq_true rfl), (Nat.le_of_ble_eq_true rfl)⟩ (Nat.le_of_ble_eq_true rfl) rfl 25 rfl (by decide +kernel) [.int r129] rfl ?_
    obtain ⟨rfl, rfl⟩ := ret_e hf
    exact v_iret C hr (by decide +kernel)
  · have hf := ite2_f hf h127
    refine v_iload_n C 2 2 rfl 9 rfl (by decide +kernel) ?_
    refine v_iconst C (0) (0) (by decide) 10 rfl (by decide +kernel) ?_
    refine v_sipush C (1000) (1000) (by decide) 13 rfl (by decide +kernel) ?_
    obtain ⟨r131, σ130, hcr131, hf⟩ := cl2_e hf
    refine v_cS C [.int x2, .int (0 : Int32), .int (1000 : Int32)] [] (c_M_within G l σ125 x2 (0 : Int32) (1000 : Int32) hcr131) 69 3 tw_1075 tw_1073 tw_1074 tw_10 hd_M_within rfl ⟨(Nat.le_of_ble_eq_true rfl), (Nat.le_of_ble_eq_true rfl)⟩ ⟨(Nat.le_of_ble_eq_true rfl), (Nat.le_of_ble_eq_true rfl)⟩ (Nat.le_of_ble_eq_true rfl) rfl 16 rfl (by decide +kernel) [.int r131] rfl ?_
    refine v_if_ne C 26 19 rfl (by decide +kernel) (fun h132 => ?_) (fun h132 => ?_)
    · have hf := ite2_f hf h132
      refine v_aload_n C 0 0 rfl 27 rfl (by decide +kernel) ?_
      obtain ⟨b133, hb133, hf⟩ := drf_e hf
      obtain ⟨hk_b133, hf⟩ := grd_e hf
      refine v_getR C 9 7 hb133 rfl nin_9 (ns_kd_lt hk_a0 (by decide)) hk_a0 (by decide) (by decide) rfl 26 tw_982 rfl 30 rfl (by decide +kernel) ?_
      refine v_iload_n C 1 1 rfl 31 rfl (by decide +kernel) ?_
      obtain ⟨hi134, hf⟩ := grd_e hf
      refine v_iald C (ns_kd_lt hk_b133 (by decide)) hk_b133 hi134 32 rfl (by decide +kernel) ?_
      obtain ⟨z135, hz135, hf⟩ := bnd_e hf
      refine v_nmI hz135 ?_
      refine v_istore_n C 3 [(3, .int z135), (0, .ref (G.1 + a0)), (1, .int x1), (2, .int x2)] (by decide) rfl 33 rfl (by decide +kernel) ?_
      refine v_aload_n C 0 1 rfl 34 rfl (by decide +kernel) ?_
      obtain ⟨b136, hb136, hf⟩ := drf_e hf
      obtain ⟨hk_b136, hf⟩ := grd_e hf
      refine v_getR C 9 29 hb136 rfl nin_9 (ns_kd_lt hk_a0 (by decide)) hk_a0 (by decide) (by decide) rfl 53 tw_1004 rfl 37 rfl (by decide +kernel) ?_
      refine v_astore C 4 [(4, .ref (G.1 + b136)), (3, .int z135), (0, .ref (G.1 + a0)), (1, .int x1), (2, .int x2)] (by decide) rfl 39 rfl (by decide +kernel) ?_
      refine v_iconst C (0) (0) (by decide) 40 rfl (by decide +kernel) ?_
      refine v_istore C 5 [(5, .int (0 : Int32)), (4, .ref (G.1 + b136)), (3, .int z135), (0, .ref (G.1 + a0)), (1, .int x1), (2, .int x2)] (by decide) rfl 42 rfl (by decide +kernel) ?_
      refine v_sub [3, 4, 5, 2, 1, 0] rfl ?_
      exact t_M_sure_42 G l C hr  ns_F σ130 a0 x1 x2 z135 b136 (0 : Int32) hk_a0 hk_b136 hf
    · have hf := ite2_t hf h132
      refine v_aload_n C 0 0 rfl 20 rfl (by decide +kernel) ?_
      refine v_bipush C (-2) (-2) (by decide) 22 rfl (by decide +kernel) ?_
      obtain ⟨r138, σ137, hcr138, hf⟩ := cl2_e hf
      refine v_cV C 9 rfl (ns_kd_lt hk_a0 (by decide)) hk_a0 (by decide) [.int (-2 : Int32)] [] (c_M_no G l σ130 a0 (-2 : Int32) hcr138) 73 1 tw_1079 tw_1076 tw_1078 ts_73 tw_10 hd_M_no rfl ⟨(Nat.le_of_ble_eq_true rfl), (Nat.le_of_ble_eq_true rfl)⟩ ⟨(Nat.le_of_ble_eq_true rfl), (Nat.le_of_ble_eq_true rfl)⟩ (Nat.le_of_ble_eq_true rfl) rfl 25 rfl (by decide +kernel) [.int r138] rfl ?_
      obtain ⟨rfl, rfl⟩ := ret_e hf
      exact v_iret C hr (by decide +kernel)
theorem hd_M_sure : (⟨"NinthStepModel", "sure", "(II)I"⟩ : MethodName).cls = "NinthStepModel" ∧ (⟨"NinthStepModel", "sure", "(II)I"⟩ : MethodName).cls ≠ "java/lang/invoke/MethodHandle" ∧ (⟨"NinthStepModel", "sure", "(II)I"⟩ : MethodName).cls ≠ "java/lang/invoke/VarHandle" ∧ (parseMethodDescriptor (⟨"NinthStepModel", "sure", "(II)I"⟩ : MethodName).desc).map (fun d => d.parameters.length) = some 2 := by decide +kernel
def g_M_judge_79  : Nat → ns_St → Nat → Int32 → Int32 → Int32 → Option (Int32 × ns_St)
  | 0, _, _, _, _, _ => none
  | f + 1, σ, a0, x1, x2, x5 => ite2 ((σ.1 a0 3) ≤ (σ.1 a0 27)) (ite2 (x2 ≤ x5) (some ((-1 : Int32), σ)) (some (x5, σ))) (cl2 (g_M_stepped σ a0 (0 : Int32)) fun r41 σ40 => ite2 (r41 = 0) ((g_M_judge_79 f) σ40 a0 x1 x2 x5) (ite2 (x5 = x2) (some (x5, σ40)) (drf (σ40.2.2 a0 2) fun b44 => grd (ns_kd b44 = 11) <| grd (ns_in (((40 : Int32) * x1) + x5) (ns_ln b44)) <| ite2 ((lg_cmp (σ40.2.1 b44 (ns_ix (((40 : Int32) * x1) + x5))) ((σ40.1 a0 27).toInt64)) = 0) (bnd (x5 + 1) fun z47 => (g_M_judge_79 f) σ40 a0 x1 x2 z47) (some (x5, σ40)))))
def g_M_judge (σ : ns_St) (a0 : Nat) (x1 : Int32) (x2 : Int32) (x3 : Int32) : Option (Int32 × ns_St) := grd (ns_kd a0 = 9) <| cl2 (g_M_within σ x1 (0 : Int32) (7 : Int32)) fun r49 σ48 => ite2 (r49 = 0) (cl2 (g_M_no σ48 a0 (-2 : Int32)) fun r52 σ51 => some (r52, σ51)) (cl2 (g_M_within σ48 x2 (0 : Int32) (40 : Int32)) fun r54 σ53 => ite2 (r54 = 0) (cl2 (g_M_no σ53 a0 (-2 : Int32)) fun r57 σ56 => some (r57, σ56)) (cl2 (g_M_isMule σ53 a0 x3) fun r59 σ58 => ite2 (r59 = 0) (cl2 (g_M_no σ58 a0 (-2 : Int32)) fun r74 σ73 => some (r74, σ73)) (cl2 (g_M_noRow σ58 a0 x1) fun r62 σ61 => ite2 (0 ≤ r62) (drf (σ61.2.2 a0 1) fun b64 => grd (ns_kd b64 = 10) <| grd (ns_in x1 (ns_ln b64)) <| ite2 (x2 ≤ (σ61.1 b64 (ns_ix x1))) (cl2 (g_M_begins σ61 a0 x3) fun r68 σ67 => g_M_judge_79 ns_F σ67 a0 x1 x2 (0 : Int32)) (cl2 (g_M_no σ61 a0 (-2 : Int32)) fun r70 σ69 => some (r70, σ69))) (cl2 (g_M_no σ61 a0 r62) fun r72 σ71 => some (r72, σ71)))))
theorem t_M_judge_79 (G : ns_G) (l : Launch) {p : Program} {e : Env} {s : State} {m : MethodId} {args : Array Value} {below : List Frame} {meth : Method} {c : Code} (C : ns_Cx G p s m args meth c prog_11_method_69_code "NinthStepModel" 6) (hr : meth.sig.returnType = (some .int)) {r : Int32} {σ' : ns_St}  : ∀ (f : Nat) (σ : ns_St) (a0 : Nat) (x1 : Int32) (x2 : Int32) (x5 : Int32) (hk_a0 : ns_kd a0 = 9), g_M_judge_79 f σ a0 x1 x2 x5 = some (r, σ') → VV G p l e { frames := 3, cells := 0, slots := 0, locals := 64 } s m args below meth c 6 0 0 (MQ below (ns_Qc G (some (.int r)) ns_N σ') args s 0 0 (ns_A G)) ns_N σ 79 [(0, .ref (G.1 + a0)), (1, .int x1), (2, .int x2), (5, .int x5)] [] := by
  intro f
  induction f with
  | zero =>
    intro σ a0 x1 x2 x5 hk_a0 hf
    cases hf
  | succ f ih =>
    intro σ a0 x1 x2 x5 hk_a0 hf
    rw [g_M_judge_79] at hf
    refine v_aload_n C 0 0 rfl 80 rfl (by decide +kernel) ?_
    refine v_getI C 9 27 rfl nin_9 (ns_kd_lt hk_a0 (by decide)) hk_a0 (by decide) (by decide) rfl 191 tw_1002 rfl 83 rfl (by decide +kernel) ?_
    refine v_aload_n C 0 0 rfl 84 rfl (by decide +kernel) ?_
    refine v_getI C 9 3 rfl nin_9 (ns_kd_lt hk_a0 (by decide)) hk_a0 (by decide) (by decide) rfl 59 tw_978 rfl 87 rfl (by decide +kernel) ?_
    refine v_icmp_ge C 137 90 rfl (by decide +kernel) (fun h38 => ?_) (fun h38 => ?_)
    · have hf := ite2_t hf h38
      refine v_iload C 5 3 rfl 139 rfl (by decide +kernel) ?_
      refine v_iload_n C 2 2 rfl 140 rfl (by decide +kernel) ?_
      refine v_icmp_ge C 148 143 rfl (by decide +kernel) (fun h39 => ?_) (fun h39 => ?_)
      · have hf := ite2_t hf h39
        refine v_iconst C (-1) (-1) (by decide) 149 rfl (by decide +kernel) ?_
        obtain ⟨rfl, rfl⟩ := ret_e hf
        exact v_iret C hr (by decide +kernel)
      · have hf := ite2_f hf h39
        refine v_iload C 5 3 rfl 145 rfl (by decide +kernel) ?_
        refine v_goto C 149 (by decide +kernel) ?_
        obtain ⟨rfl, rfl⟩ := ret_e hf
        exact v_iret C hr (by decide +kernel)
    · have hf := ite2_f hf h38
      refine v_aload_n C 0 0 rfl 91 rfl (by decide +kernel) ?_
      refine v_iconst C (0) (0) (by decide) 92 rfl (by decide +kernel) ?_
      obtain ⟨r41, σ40, hcr41, hf⟩ := cl2_e hf
      refine v_cV C 9 rfl (ns_kd_lt hk_a0 (by decide)) hk_a0 (by decide) [.int (0 : Int32)] [] (c_M_stepped G l σ a0 (0 : Int32) hcr41) 208 1 tw_1246 tw_1243 tw_1245 ts_92 tw_10 hd_M_stepped rfl ⟨(Nat.le_of_ble_eq_true rfl), (Nat.le_of_ble_eq_true rfl)⟩ ⟨(Nat.le_of_ble_eq_true rfl), (Nat.le_of_ble_eq_true rfl)⟩ (Nat.le_of_ble_eq_true rfl) rfl 95 rfl (by decide +kernel) [.int r41] rfl ?_
      refine v_if_ne C 101 98 rfl (by decide +kernel) (fun h42 => ?_) (fun h42 => ?_)
      · have hf := ite2_f hf h42
        refine v_iload C 5 3 rfl 103 rfl (by decide +kernel) ?_
        refine v_iload_n C 2 2 rfl 104 rfl (by decide +kernel) ?_
        refine v_icmp_eq C 128 107 rfl (by decide +kernel) (fun h43 => ?_) (fun h43 => ?_)
        · have hf := ite2_t hf h43
          refine v_iload C 5 3 rfl 130 rfl (by decide +kernel) ?_
          obtain ⟨rfl, rfl⟩ := ret_e hf
          exact v_iret C hr (by decide +kernel)
        · have hf := ite2_f hf h43
          refine v_aload_n C 0 0 rfl 108 rfl (by decide +kernel) ?_
          obtain ⟨b44, hb44, hf⟩ := drf_e hf
          obtain ⟨hk_b44, hf⟩ := grd_e hf
          refine v_getR C 9 2 hb44 rfl nin_9 (ns_kd_lt hk_a0 (by decide)) hk_a0 (by decide) (by decide) rfl 16 tw_977 rfl 111 rfl (by decide +kernel) ?_
          refine v_bipush C (40) (40) (by decide) 113 rfl (by decide +kernel) ?_
          refine v_iload_n C 1 1 rfl 114 rfl (by decide +kernel) ?_
          refine v_imul C 115 rfl (by decide +kernel) ?_
          refine v_iload C 5 3 rfl 117 rfl (by decide +kernel) ?_
          refine v_iadd C 118 rfl (by decide +kernel) ?_
          obtain ⟨hi45, hf⟩ := grd_e hf
          refine v_lald C (ns_kd_lt hk_b44 (by decide)) hk_b44 hi45 119 rfl (by decide +kernel) ?_
          refine v_aload_n C 0 0 rfl 120 rfl (by decide +kernel) ?_
          refine v_getI C 9 27 rfl nin_9 (ns_kd_lt hk_a0 (by decide)) hk_a0 (by decide) (by decide) rfl 191 tw_1002 rfl 123 rfl (by decide +kernel) ?_
          refine v_i2l C 124 rfl (by decide +kernel) ?_
          refine v_lcmp C 125 rfl (by decide +kernel) ?_
          refine v_if_eq C 131 128 rfl (by decide +kernel) (fun h46 => ?_) (fun h46 => ?_)
          · have hf := ite2_t hf h46
            obtain ⟨z47, hz47, hf⟩ := bnd_e hf
            refine v_iinc C 5 (1) 3 z47 rfl (by rw [hz47]; rfl) [(5, .int z47), (0, .ref (G.1 + a0)), (1, .int x1), (2, .int x2)] (by decide) rfl 134 rfl (by decide +kernel) ?_
            refine v_goto C 79 (by decide +kernel) ?_
            refine v_sub [1, 2, 3, 0] rfl ?_
            exact ih σ40 a0 x1 x2 z47 hk_a0 hf
          · have hf := ite2_f hf h46
            refine v_iload C 5 3 rfl 130 rfl (by decide +kernel) ?_
            obtain ⟨rfl, rfl⟩ := ret_e hf
            exact v_iret C hr (by decide +kernel)
      · have hf := ite2_t hf h42
        refine v_goto C 79 (by decide +kernel) ?_
        exact ih σ40 a0 x1 x2 x5 hk_a0 hf
theorem c_M_judge (G : ns_G) (l : Launch) (σ : ns_St) (a0 : Nat) (x1 : Int32) (x2 : Int32) (x3 : Int32) {r : Int32} {σ' : ns_St} (hf : g_M_judge σ a0 x1 x2 x3 = some (r, σ')) : ns_ok G l ⟨"NinthStepModel", "judge", "(III)I"⟩ prog_11_method_69_code 6 (some .int) 3 64 0 0 [.ref (G.1 + a0), .int x1, .int x2, .int x3] ns_N σ (some (.int r)) ns_N σ' := by
  refine v_open (by decide) (Nat.le_of_ble_eq_true rfl) rfl ?_
  intro p e s m below meth c C hr _
  have C : ns_Cx G p s m _ meth c prog_11_method_69_code "NinthStepModel" 6 := C
  unfold g_M_judge at hf
  obtain ⟨hk_a0, hf⟩ := grd_e hf
  refine v_iload_n C 1 1 rfl 1 rfl (by decide +kernel) ?_
  refine v_iconst C (0) (0) (by decide) 2 rfl (by decide +kernel) ?_
  refine v_bipush C (7) (7) (by decide) 4 rfl (by decide +kernel) ?_
  obtain ⟨r49, σ48, hcr49, hf⟩ := cl2_e hf
  refine v_cS C [.int x1, .int (0 : Int32), .int (7 : Int32)] [] (c_M_within G l σ x1 (0 : Int32) (7 : Int32) hcr49) 69 3 tw_1075 tw_1073 tw_1074 tw_10 hd_M_within rfl ⟨(Nat.le_of_ble_eq_true rfl), (Nat.le_of_ble_eq_true rfl)⟩ ⟨(Nat.le_of_ble_eq_true rfl), (Nat.le_of_ble_eq_true rfl)⟩ (Nat.le_of_ble_eq_true rfl) rfl 7 rfl (by decide +kernel) [.int r49] rfl ?_
  refine v_if_eq C 28 10 rfl (by decide +kernel) (fun h50 => ?_) (fun h50 => ?_)
  · have hf := ite2_t hf h50
    refine v_aload_n C 0 0 rfl 29 rfl (by decide +kernel) ?_
    refine v_bipush C (-2) (-2) (by decide) 31 rfl (by decide +kernel) ?_
    obtain ⟨r52, σ51, hcr52, hf⟩ := cl2_e hf
    refine v_cV C 9 rfl (ns_kd_lt hk_a0 (by decide)) hk_a0 (by decide) [.int (-2 : Int32)] [] (c_M_no G l σ48 a0 (-2 : Int32) hcr52) 73 1 tw_1079 tw_1076 tw_1078 ts_73 tw_10 hd_M_no rfl ⟨(Nat.le_of_ble_eq_true rfl), (Nat.le_of_ble_eq_true rfl)⟩ ⟨(Nat.le_of_ble_eq_true rfl), (Nat.le_of_ble_eq_true rfl)⟩ (Nat.le_of_ble_eq_true rfl) rfl 34 rfl (by decide +kernel) [.int r52] rfl ?_
    obtain ⟨rfl, rfl⟩ := ret_e hf
    exact v_iret C hr (by decide +kernel)
  · have hf := ite2_f hf h50
    refine v_iload_n C 2 2 rfl 11 rfl (by decide +kernel) ?_
    refine v_iconst C (0) (0) (by decide) 12 rfl (by decide +kernel) ?_
    refine v_bipush C (40) (40) (by decide) 14 rfl (by decide +kernel) ?_
    obtain ⟨r54, σ53, hcr54, hf⟩ := cl2_e hf
    refine v_cS C [.int x2, .int (0 : Int32), .int (40 : Int32)] [] (c_M_within G l σ48 x2 (0 : Int32) (40 : Int32) hcr54) 69 3 tw_1075 tw_1073 tw_1074 tw_10 hd_M_within rfl ⟨(Nat.le_of_ble_eq_true rfl), (Nat.le_of_ble_eq_true rfl)⟩ ⟨(Nat.le_of_ble_eq_true rfl), (Nat.le_of_ble_eq_true rfl)⟩ (Nat.le_of_ble_eq_true rfl) rfl 17 rfl (by decide +kernel) [.int r54] rfl ?_
    refine v_if_eq C 28 20 rfl (by decide +kernel) (fun h55 => ?_) (fun h55 => ?_)
    · have hf := ite2_t hf h55
      refine v_aload_n C 0 0 rfl 29 rfl (by decide +kernel) ?_
      refine v_bipush C (-2) (-2) (by decide) 31 rfl (by decide +kernel) ?_
      obtain ⟨r57, σ56, hcr57, hf⟩ := cl2_e hf
      refine v_cV C 9 rfl (ns_kd_lt hk_a0 (by decide)) hk_a0 (by decide) [.int (-2 : Int32)] [] (c_M_no G l σ53 a0 (-2 : Int32) hcr57) 73 1 tw_1079 tw_1076 tw_1078 ts_73 tw_10 hd_M_no rfl ⟨(Nat.le_of_ble_eq_true rfl), (Nat.le_of_ble_eq_true rfl)⟩ ⟨(Nat.le_of_ble_eq_true rfl), (Nat.le_of_ble_eq_true rfl)⟩ (Nat.le_of_ble_eq_true rfl) rfl 34 rfl (by decide +kernel) [.int r57] rfl ?_
      obtain ⟨rfl, rfl⟩ := ret_e hf
      exact v_iret C hr (by decide +kernel)
    · have hf := ite2_f hf h55
      refine v_aload_n C 0 0 rfl 21 rfl (by decide +kernel) ?_
      refine v_iload_n C 3 3 rfl 22 rfl (by decide +kernel) ?_
      obtain ⟨r59, σ58, hcr59, hf⟩ := cl2_e hf
      refine v_cV C 9 rfl (ns_kd_lt hk_a0 (by decide)) hk_a0 (by decide) [.int x3] [] (c_M_isMule G l σ53 a0 x3 hcr59) 84 1 tw_1111 tw_1108 tw_1110 ts_76 tw_10 hd_M_isMule rfl ⟨(Nat.le_of_ble_eq_true rfl), (Nat.le_of_ble_eq_true rfl)⟩ ⟨(Nat.le_of_ble_eq_true rfl), (Nat.le_of_ble_eq_true rfl)⟩ (Nat.le_of_ble_eq_true rfl) rfl 25 rfl (by decide +kernel) [.int r59] rfl ?_
      refine v_if_ne C 35 28 rfl (by decide +kernel) (fun h60 => ?_) (fun h60 => ?_)
      · have hf := ite2_f hf h60
        refine v_aload_n C 0 0 rfl 36 rfl (by decide +kernel) ?_
        refine v_iload_n C 1 1 rfl 37 rfl (by decide +kernel) ?_
        obtain ⟨r62, σ61, hcr62, hf⟩ := cl2_e hf
        refine v_cV C 9 rfl (ns_kd_lt hk_a0 (by decide)) hk_a0 (by decide) [.int x1] [] (c_M_noRow G l σ58 a0 x1 hcr62) 77 1 tw_1087 tw_1084 tw_1086 ts_74 tw_10 hd_M_noRow rfl ⟨(Nat.le_of_ble_eq_true rfl), (Nat.le_of_ble_eq_true rfl)⟩ ⟨(Nat.le_of_ble_eq_true rfl), (Nat.le_of_ble_eq_true rfl)⟩ (Nat.le_of_ble_eq_true rfl) rfl 40 rfl (by decide +kernel) [.int r62] rfl ?_
        refine v_istore C 4 [(4, .int r62), (0, .ref (G.1 + a0)), (1, .int x1), (2, .int x2), (3, .int x3)] (by decide) rfl 42 rfl (by decide +kernel) ?_
        refine v_iload C 4 0 rfl 44 rfl (by decide +kernel) ?_
        refine v_if_ge C 54 47 rfl (by decide +kernel) (fun h63 => ?_) (fun h63 => ?_)
        · have hf := ite2_t hf h63
          refine v_iload_n C 2 3 rfl 55 rfl (by decide +kernel) ?_
          refine v_aload_n C 0 1 rfl 56 rfl (by decide +kernel) ?_
          obtain ⟨b64, hb64, hf⟩ := drf_e hf
          obtain ⟨hk_b64, hf⟩ := grd_e hf
          refine v_getR C 9 1 hb64 rfl nin_9 (ns_kd_lt hk_a0 (by decide)) hk_a0 (by decide) (by decide) rfl 13 tw_976 rfl 59 rfl (by decide +kernel) ?_
          refine v_iload_n C 1 2 rfl 60 rfl (by decide +kernel) ?_
          obtain ⟨hi65, hf⟩ := grd_e hf
          refine v_iald C (ns_kd_lt hk_b64 (by decide)) hk_b64 hi65 61 rfl (by decide +kernel) ?_
          refine v_icmp_le C 71 64 rfl (by decide +kernel) (fun h66 => ?_) (fun h66 => ?_)
          · have hf := ite2_t hf h66
            refine v_iconst C (0) (0) (by decide) 72 rfl (by decide +kernel) ?_
            refine v_istore C 5 [(5, .int (0 : Int32)), (4, .int r62), (0, .ref (G.1 + a0)), (1, .int x1), (2, .int x2), (3, .int x3)] (by decide) rfl 74 rfl (by decide +kernel) ?_
            refine v_aload_n C 0 2 rfl 75 rfl (by decide +kernel) ?_
            refine v_iload_n C 3 5 rfl 76 rfl (by decide +kernel) ?_
            obtain ⟨r68, σ67, hcr68, hf⟩ := cl2_e hf
            refine v_cV C 9 rfl (ns_kd_lt hk_a0 (by decide)) hk_a0 (by decide) [.int x3] [] (c_M_begins G l σ61 a0 x3 hcr68) 205 1 tw_1242 tw_1239 tw_1241 ts_91 tw_10 hd_M_begins rfl ⟨(Nat.le_of_ble_eq_true rfl), (Nat.le_of_ble_eq_true rfl)⟩ ⟨(Nat.le_of_ble_eq_true rfl), (Nat.le_of_ble_eq_true rfl)⟩ (Nat.le_of_ble_eq_true rfl) rfl 79 rfl (by decide +kernel) [] rfl ?_
            refine v_sub [2, 3, 4, 0] rfl ?_
            exact t_M_judge_79 G l C hr  ns_F σ67 a0 x1 x2 (0 : Int32) hk_a0 hf
          · have hf := ite2_f hf h66
            refine v_aload_n C 0 1 rfl 65 rfl (by decide +kernel) ?_
            refine v_bipush C (-2) (-2) (by decide) 67 rfl (by decide +kernel) ?_
            obtain ⟨r70, σ69, hcr70, hf⟩ := cl2_e hf
            refine v_cV C 9 rfl (ns_kd_lt hk_a0 (by decide)) hk_a0 (by decide) [.int (-2 : Int32)] [] (c_M_no G l σ61 a0 (-2 : Int32) hcr70) 73 1 tw_1079 tw_1076 tw_1078 ts_73 tw_10 hd_M_no rfl ⟨(Nat.le_of_ble_eq_true rfl), (Nat.le_of_ble_eq_true rfl)⟩ ⟨(Nat.le_of_ble_eq_true rfl), (Nat.le_of_ble_eq_true rfl)⟩ (Nat.le_of_ble_eq_true rfl) rfl 70 rfl (by decide +kernel) [.int r70] rfl ?_
            obtain ⟨rfl, rfl⟩ := ret_e hf
            exact v_iret C hr (by decide +kernel)
        · have hf := ite2_f hf h63
          refine v_aload_n C 0 1 rfl 48 rfl (by decide +kernel) ?_
          refine v_iload C 4 0 rfl 50 rfl (by decide +kernel) ?_
          obtain ⟨r72, σ71, hcr72, hf⟩ := cl2_e hf
          refine v_cV C 9 rfl (ns_kd_lt hk_a0 (by decide)) hk_a0 (by decide) [.int r62] [] (c_M_no G l σ61 a0 r62 hcr72) 73 1 tw_1079 tw_1076 tw_1078 ts_73 tw_10 hd_M_no rfl ⟨(Nat.le_of_ble_eq_true rfl), (Nat.le_of_ble_eq_true rfl)⟩ ⟨(Nat.le_of_ble_eq_true rfl), (Nat.le_of_ble_eq_true rfl)⟩ (Nat.le_of_ble_eq_true rfl) rfl 53 rfl (by decide +kernel) [.int r72] rfl ?_
          obtain ⟨rfl, rfl⟩ := ret_e hf
          exact v_iret C hr (by decide +kernel)
      · have hf := ite2_t hf h60
        refine v_aload_n C 0 0 rfl 29 rfl (by decide +kernel) ?_
        refine v_bipush C (-2) (-2) (by decide) 31 rfl (by decide +kernel) ?_
        obtain ⟨r74, σ73, hcr74, hf⟩ := cl2_e hf
        refine v_cV C 9 rfl (ns_kd_lt hk_a0 (by decide)) hk_a0 (by decide) [.int (-2 : Int32)] [] (c_M_no G l σ58 a0 (-2 : Int32) hcr74) 73 1 tw_1079 tw_1076 tw_1078 ts_73 tw_10 hd_M_no rfl ⟨(Nat.le_of_ble_eq_true rfl), (Nat.le_of_ble_eq_true rfl)⟩ ⟨(Nat.le_of_ble_eq_true rfl), (Nat.le_of_ble_eq_true rfl)⟩ (Nat.le_of_ble_eq_true rfl) rfl 34 rfl (by decide +kernel) [.int r74] rfl ?_
        obtain ⟨rfl, rfl⟩ := ret_e hf
        exact v_iret C hr (by decide +kernel)
theorem hd_M_judge : (⟨"NinthStepModel", "judge", "(III)I"⟩ : MethodName).cls = "NinthStepModel" ∧ (⟨"NinthStepModel", "judge", "(III)I"⟩ : MethodName).cls ≠ "java/lang/invoke/MethodHandle" ∧ (⟨"NinthStepModel", "judge", "(III)I"⟩ : MethodName).cls ≠ "java/lang/invoke/VarHandle" ∧ (parseMethodDescriptor (⟨"NinthStepModel", "judge", "(III)I"⟩ : MethodName).desc).map (fun d => d.parameters.length) = some 3 := by decide +kernel
def g_M_worst_18  : Nat → ns_St → Nat → Int32 → Int32 → Option (Int32 × ns_St)
  | 0, _, _, _, _ => none
  | f + 1, σ, a0, x1, x2 => ite2 ((σ.1 a0 5) ≤ x2) (some (x1, σ)) (cl2 (g_M_journey σ a0 x2 (0 : Int32)) fun r14 σ13 => cl2 (g_M_journey σ13 a0 x1 (0 : Int32)) fun r16 σ15 => ite2 (r14 ≤ r16) (bnd (x2 + 1) fun z18 => (g_M_worst_18 f) σ15 a0 x1 z18) (bnd (x2 + 1) fun z19 => (g_M_worst_18 f) σ15 a0 x2 z19))
def g_M_worst (σ : ns_St) (a0 : Nat) : Option (Int32 × ns_St) := grd (ns_kd a0 = 9) <| ite2 ((σ.1 a0 5) = 0) (cl2 (g_M_no σ a0 (-5 : Int32)) fun r22 σ21 => some (r22, σ21)) (g_M_worst_18 ns_F σ a0 (0 : Int32) (1 : Int32))
theorem t_M_worst_18 (G : ns_G) (l : Launch) {p : Program} {e : Env} {s : State} {m : MethodId} {args : Array Value} {below : List Frame} {meth : Method} {c : Code} (C : ns_Cx G p s m args meth c prog_11_method_70_code "NinthStepModel" 3) (hr : meth.sig.returnType = (some .int)) {r : Int32} {σ' : ns_St}  : ∀ (f : Nat) (σ : ns_St) (a0 : Nat) (x1 : Int32) (x2 : Int32) (hk_a0 : ns_kd a0 = 9), g_M_worst_18 f σ a0 x1 x2 = some (r, σ') → VV G p l e { frames := 4, cells := 0, slots := 0, locals := 90 } s m args below meth c 3 0 0 (MQ below (ns_Qc G (some (.int r)) ns_N σ') args s 0 0 (ns_A G)) ns_N σ 18 [(0, .ref (G.1 + a0)), (1, .int x1), (2, .int x2)] [] := by
  intro f
  induction f with
  | zero =>
    intro σ a0 x1 x2 hk_a0 hf
    cases hf
  | succ f ih =>
    intro σ a0 x1 x2 hk_a0 hf
    rw [g_M_worst_18] at hf
    refine v_iload_n C 2 2 rfl 19 rfl (by decide +kernel) ?_
    refine v_aload_n C 0 0 rfl 20 rfl (by decide +kernel) ?_
    refine v_getI C 9 5 rfl nin_9 (ns_kd_lt hk_a0 (by decide)) hk_a0 (by decide) (by decide) rfl 66 tw_980 rfl 23 rfl (by decide +kernel) ?_
    refine v_icmp_ge C 49 26 rfl (by decide +kernel) (fun h12 => ?_) (fun h12 => ?_)
    · have hf := ite2_t hf h12
      refine v_iload_n C 1 1 rfl 50 rfl (by decide +kernel) ?_
      obtain ⟨rfl, rfl⟩ := ret_e hf
      exact v_iret C hr (by decide +kernel)
    · have hf := ite2_f hf h12
      refine v_aload_n C 0 0 rfl 27 rfl (by decide +kernel) ?_
      refine v_iload_n C 2 2 rfl 28 rfl (by decide +kernel) ?_
      refine v_iconst C (0) (0) (by decide) 29 rfl (by decide +kernel) ?_
      obtain ⟨r14, σ13, hcr14, hf⟩ := cl2_e hf
      refine v_cV C 9 rfl (ns_kd_lt hk_a0 (by decide)) hk_a0 (by decide) [.int x2, .int (0 : Int32)] [] (c_M_journey G l σ a0 x2 (0 : Int32) hcr14) 218 2 tw_1279 tw_1276 tw_1278 ts_97 tw_10 hd_M_journey rfl ⟨(Nat.le_of_ble_eq_true rfl), (Nat.le_of_ble_eq_true rfl)⟩ ⟨(Nat.le_of_ble_eq_true rfl), (Nat.le_of_ble_eq_true rfl)⟩ (Nat.le_of_ble_eq_true rfl) rfl 32 rfl (by decide +kernel) [.int r14] rfl ?_
      refine v_aload_n C 0 0 rfl 33 rfl (by decide +kernel) ?_
      refine v_iload_n C 1 1 rfl 34 rfl (by decide +kernel) ?_
      refine v_iconst C (0) (0) (by decide) 35 rfl (by decide +kernel) ?_
      obtain ⟨r16, σ15, hcr16, hf⟩ := cl2_e hf
      refine v_cV C 9 rfl (ns_kd_lt hk_a0 (by decide)) hk_a0 (by decide) [.int x1, .int (0 : Int32)] [.int r14] (c_M_journey G l σ13 a0 x1 (0 : Int32) hcr16) 218 2 tw_1279 tw_1276 tw_1278 ts_97 tw_10 hd_M_journey rfl ⟨(Nat.le_of_ble_eq_true rfl), (Nat.le_of_ble_eq_true rfl)⟩ ⟨(Nat.le_of_ble_eq_true rfl), (Nat.le_of_ble_eq_true rfl)⟩ (Nat.le_of_ble_eq_true rfl) rfl 38 rfl (by decide +kernel) [.int r16, .int r14] rfl ?_
      refine v_icmp_le C 43 41 rfl (by decide +kernel) (fun h17 => ?_) (fun h17 => ?_)
      · have hf := ite2_t hf h17
        obtain ⟨z18, hz18, hf⟩ := bnd_e hf
        refine v_iinc C 2 (1) 2 z18 rfl (by rw [hz18]; rfl) [(2, .int z18), (0, .ref (G.1 + a0)), (1, .int x1)] (by decide) rfl 46 rfl (by decide +kernel) ?_
        refine v_goto C 18 (by decide +kernel) ?_
        refine v_sub [1, 2, 0] rfl ?_
        exact ih σ15 a0 x1 z18 hk_a0 hf
      · have hf := ite2_f hf h17
        refine v_iload_n C 2 2 rfl 42 rfl (by decide +kernel) ?_
        refine v_istore_n C 1 [(1, .int x2), (0, .ref (G.1 + a0)), (2, .int x2)] (by decide) rfl 43 rfl (by decide +kernel) ?_
        obtain ⟨z19, hz19, hf⟩ := bnd_e hf
        refine v_iinc C 2 (1) 2 z19 rfl (by rw [hz19]; rfl) [(2, .int z19), (1, .int x2), (0, .ref (G.1 + a0))] (by decide) rfl 46 rfl (by decide +kernel) ?_
        refine v_goto C 18 (by decide +kernel) ?_
        refine v_sub [2, 1, 0] rfl ?_
        exact ih σ15 a0 x2 z19 hk_a0 hf
theorem c_M_worst (G : ns_G) (l : Launch) (σ : ns_St) (a0 : Nat) {r : Int32} {σ' : ns_St} (hf : g_M_worst σ a0 = some (r, σ')) : ns_ok G l ⟨"NinthStepModel", "worst", "()I"⟩ prog_11_method_70_code 3 (some .int) 4 90 0 0 [.ref (G.1 + a0)] ns_N σ (some (.int r)) ns_N σ' := by
  refine v_open (by decide) (Nat.le_of_ble_eq_true rfl) rfl ?_
  intro p e s m below meth c C hr _
  have C : ns_Cx G p s m _ meth c prog_11_method_70_code "NinthStepModel" 3 := C
  unfold g_M_worst at hf
  obtain ⟨hk_a0, hf⟩ := grd_e hf
  refine v_aload_n C 0 0 rfl 1 rfl (by decide +kernel) ?_
  refine v_getI C 9 5 rfl nin_9 (ns_kd_lt hk_a0 (by decide)) hk_a0 (by decide) (by decide) rfl 66 tw_980 rfl 4 rfl (by decide +kernel) ?_
  refine v_if_ne C 14 7 rfl (by decide +kernel) (fun h20 => ?_) (fun h20 => ?_)
  · have hf := ite2_f hf h20
    refine v_iconst C (0) (0) (by decide) 15 rfl (by decide +kernel) ?_
    refine v_istore_n C 1 [(1, .int (0 : Int32)), (0, .ref (G.1 + a0))] (by decide) rfl 16 rfl (by decide +kernel) ?_
    refine v_iconst C (1) (1) (by decide) 17 rfl (by decide +kernel) ?_
    refine v_istore_n C 2 [(2, .int (1 : Int32)), (1, .int (0 : Int32)), (0, .ref (G.1 + a0))] (by decide) rfl 18 rfl (by decide +kernel) ?_
    refine v_sub [2, 1, 0] rfl ?_
    exact t_M_worst_18 G l C hr  ns_F σ a0 (0 : Int32) (1 : Int32) hk_a0 hf
  · have hf := ite2_t hf h20
    refine v_aload_n C 0 0 rfl 8 rfl (by decide +kernel) ?_
    refine v_bipush C (-5) (-5) (by decide) 10 rfl (by decide +kernel) ?_
    obtain ⟨r22, σ21, hcr22, hf⟩ := cl2_e hf
    refine v_cV C 9 rfl (ns_kd_lt hk_a0 (by decide)) hk_a0 (by decide) [.int (-5 : Int32)] [] (c_M_no G l σ a0 (-5 : Int32) hcr22) 73 1 tw_1079 tw_1076 tw_1078 ts_73 tw_10 hd_M_no rfl ⟨(Nat.le_of_ble_eq_true rfl), (Nat.le_of_ble_eq_true rfl)⟩ ⟨(Nat.le_of_ble_eq_true rfl), (Nat.le_of_ble_eq_true rfl)⟩ (Nat.le_of_ble_eq_true rfl) rfl 13 rfl (by decide +kernel) [.int r22] rfl ?_
    obtain ⟨rfl, rfl⟩ := ret_e hf
    exact v_iret C hr (by decide +kernel)
theorem hd_M_worst : (⟨"NinthStepModel", "worst", "()I"⟩ : MethodName).cls = "NinthStepModel" ∧ (⟨"NinthStepModel", "worst", "()I"⟩ : MethodName).cls ≠ "java/lang/invoke/MethodHandle" ∧ (⟨"NinthStepModel", "worst", "()I"⟩ : MethodName).cls ≠ "java/lang/invoke/VarHandle" ∧ (parseMethodDescriptor (⟨"NinthStepModel", "worst", "()I"⟩ : MethodName).desc).map (fun d => d.parameters.length) = some 0 := by decide +kernel
def g_M_lucky_80  (σ : ns_St) (a0 : Nat) (x1 : Int32) (x2 : Int32) (x3 : Int32) (x4 : Int32) : Option (Int32 × ns_St) := drf (σ.2.2 a0 7) fun b31 => grd (ns_kd b31 = 10) <| grd (ns_in x1 (ns_ln b31)) <| bnd (ns_pI σ b31 (ns_ix x1) x2) fun σ33 => drf (σ33.2.2 a0 9) fun b34 => grd (ns_kd b34 = 10) <| grd (ns_in x1 (ns_ln b34)) <| bnd (ns_pI σ33 b34 (ns_ix x1) x3) fun σ36 => some (x4, σ36)
def g_M_lucky_42  : Nat → ns_St → Nat → Int32 → Int32 → Int32 → Int32 → Int32 → Option (Int32 × ns_St)
  | 0, _, _, _, _, _, _, _ => none
  | f + 1, σ, a0, x1, x2, x3, x4, x5 => ite2 ((14 : Int32) ≤ x5) (g_M_lucky_80 σ a0 x1 x2 x3 x4) (ite2 (0 ≤ x4) (g_M_lucky_80 σ a0 x1 x2 x3 x4) (drf (σ.2.2 a0 7) fun b39 => grd (ns_kd b39 = 10) <| grd (ns_in x1 (ns_ln b39)) <| bnd (ns_pI σ b39 (ns_ix x1) x5) fun σ41 => cl2 (g_M_isGood σ41 a0 x1) fun r43 σ42 => ite2 (r43 = 0) (bnd (x5 + 1) fun z45 => (g_M_lucky_42 f) σ42 a0 x1 x2 x3 x4 z45) (bnd (x5 + 1) fun z46 => (g_M_lucky_42 f) σ42 a0 x1 x2 x3 x5 z46)))
def g_M_lucky (σ : ns_St) (a0 : Nat) (x1 : Int32) : Option (Int32 × ns_St) := grd (ns_kd a0 = 9) <| cl2 (g_M_isMule σ a0 x1) fun r48 σ47 => ite2 (r48 = 0) (cl2 (g_M_no σ47 a0 (-2 : Int32)) fun r60 σ59 => some (r60, σ59)) (drf (σ47.2.2 a0 7) fun b50 => grd (ns_kd b50 = 10) <| grd (ns_in x1 (ns_ln b50)) <| bnd (σ47.1 b50 (ns_ix x1)) fun z52 => drf (σ47.2.2 a0 9) fun b53 => grd (ns_kd b53 = 10) <| grd (ns_in x1 (ns_ln b53)) <| bnd (σ47.1 b53 (ns_ix x1)) fun z55 => drf (σ47.2.2 a0 9) fun b56 => grd (ns_kd b56 = 10) <| grd (ns_in x1 (ns_ln b56)) <| bnd (ns_pI σ47 b56 (ns_ix x1) (0 : Int32)) fun σ58 => g_M_lucky_42 ns_F σ58 a0 x1 z52 z55 (-1 : Int32) (2 : Int32))
theorem t_M_lucky_80 (G : ns_G) (l : Launch) {p : Program} {e : Env} {s : State} {m : MethodId} {args : Array Value} {below : List Frame} {meth : Method} {c : Code} (C : ns_Cx G p s m args meth c prog_11_method_71_code "NinthStepModel" 6) (hr : meth.sig.returnType = (some .int)) {r : Int32} {σ' : ns_St}  (σ : ns_St) (a0 : Nat) (x1 : Int32) (x2 : Int32) (x3 : Int32) (x4 : Int32) (hk_a0 : ns_kd a0 = 9) (hf : g_M_lucky_80 σ a0 x1 x2 x3 x4 = some (r, σ')) : VV G p l e { frames := 5, cells := 0, slots := 0, locals := 111 } s m args below meth c 6 0 0 (MQ below (ns_Qc G (some (.int r)) ns_N σ') args s 0 0 (ns_A G)) ns_N σ 80 [(0, .ref (G.1 + a0)), (1, .int x1), (2, .int x2), (3, .int x3), (4, .int x4)] [] := by
  unfold g_M_lucky_80 at hf
  refine v_aload_n C 0 0 rfl 81 rfl (by decide +kernel) ?_
  obtain ⟨b31, hb31, hf⟩ := drf_e hf
  obtain ⟨hk_b31, hf⟩ := grd_e hf
  refine v_getR C 9 7 hb31 rfl nin_9 (ns_kd_lt hk_a0 (by decide)) hk_a0 (by decide) (by decide) rfl 26 tw_982 rfl 84 rfl (by decide +kernel) ?_
  refine v_iload_n C 1 1 rfl 85 rfl (by decide +kernel) ?_
  refine v_iload_n C 2 2 rfl 86 rfl (by decide +kernel) ?_
  obtain ⟨hi32, hf⟩ := grd_e hf
  obtain ⟨σ33, hσ33, hf⟩ := bnd_e hf
  refine v_iast C hσ33 (ns_kd_lt hk_b31 (by decide)) hk_b31 hi32 87 rfl (by decide +kernel) ?_
  refine v_aload_n C 0 0 rfl 88 rfl (by decide +kernel) ?_
  obtain ⟨b34, hb34, hf⟩ := drf_e hf
  obtain ⟨hk_b34, hf⟩ := grd_e hf
  refine v_getR C 9 9 hb34 rfl nin_9 (ns_kd_lt hk_a0 (by decide)) hk_a0 (by decide) (by decide) rfl 32 tw_984 rfl 91 rfl (by decide +kernel) ?_
  refine v_iload_n C 1 1 rfl 92 rfl (by decide +kernel) ?_
  refine v_iload_n C 3 3 rfl 93 rfl (by decide +kernel) ?_
  obtain ⟨hi35, hf⟩ := grd_e hf
  obtain ⟨σ36, hσ36, hf⟩ := bnd_e hf
  refine v_iast C hσ36 (ns_kd_lt hk_b34 (by decide)) hk_b34 hi35 94 rfl (by decide +kernel) ?_
  refine v_iload C 4 4 rfl 96 rfl (by decide +kernel) ?_
  obtain ⟨rfl, rfl⟩ := ret_e hf
  exact v_iret C hr (by decide +kernel)
theorem t_M_lucky_42 (G : ns_G) (l : Launch) {p : Program} {e : Env} {s : State} {m : MethodId} {args : Array Value} {below : List Frame} {meth : Method} {c : Code} (C : ns_Cx G p s m args meth c prog_11_method_71_code "NinthStepModel" 6) (hr : meth.sig.returnType = (some .int)) {r : Int32} {σ' : ns_St}  : ∀ (f : Nat) (σ : ns_St) (a0 : Nat) (x1 : Int32) (x2 : Int32) (x3 : Int32) (x4 : Int32) (x5 : Int32) (hk_a0 : ns_kd a0 = 9), g_M_lucky_42 f σ a0 x1 x2 x3 x4 x5 = some (r, σ') → VV G p l e { frames := 5, cells := 0, slots := 0, locals := 111 } s m args below meth c 6 0 0 (MQ below (ns_Qc G (some (.int r)) ns_N σ') args s 0 0 (ns_A G)) ns_N σ 42 [(0, .ref (G.1 + a0)), (1, .int x1), (2, .int x2), (3, .int x3), (4, .int x4), (5, .int x5)] [] := by
  intro f
  induction f with
  | zero =>
    intro σ a0 x1 x2 x3 x4 x5 hk_a0 hf
    cases hf
  | succ f ih =>
    intro σ a0 x1 x2 x3 x4 x5 hk_a0 hf
    rw [g_M_lucky_42] at hf
    refine v_iload C 5 5 rfl 44 rfl (by decide +kernel) ?_
    refine v_bipush C (14) (14) (by decide) 46 rfl (by decide +kernel) ?_
    refine v_icmp_ge C 80 49 rfl (by decide +kernel) (fun h37 => ?_) (fun h37 => ?_)
    · have hf := ite2_t hf h37
      refine v_sub [0, 1, 2, 3, 4] rfl ?_
      exact t_M_lucky_80 G l C hr  σ a0 x1 x2 x3 x4 hk_a0 hf
    · have hf := ite2_f hf h37
      refine v_iload C 4 4 rfl 51 rfl (by decide +kernel) ?_
      refine v_if_ge C 80 54 rfl (by decide +kernel) (fun h38 => ?_) (fun h38 => ?_)
      · have hf := ite2_t hf h38
        refine v_sub [0, 1, 2, 3, 4] rfl ?_
        exact t_M_lucky_80 G l C hr  σ a0 x1 x2 x3 x4 hk_a0 hf
      · have hf := ite2_f hf h38
        refine v_aload_n C 0 0 rfl 55 rfl (by decide +kernel) ?_
        obtain ⟨b39, hb39, hf⟩ := drf_e hf
        obtain ⟨hk_b39, hf⟩ := grd_e hf
        refine v_getR C 9 7 hb39 rfl nin_9 (ns_kd_lt hk_a0 (by decide)) hk_a0 (by decide) (by decide) rfl 26 tw_982 rfl 58 rfl (by decide +kernel) ?_
        refine v_iload_n C 1 1 rfl 59 rfl (by decide +kernel) ?_
        refine v_iload C 5 5 rfl 61 rfl (by decide +kernel) ?_
        obtain ⟨hi40, hf⟩ := grd_e hf
        obtain ⟨σ41, hσ41, hf⟩ := bnd_e hf
        refine v_iast C hσ41 (ns_kd_lt hk_b39 (by decide)) hk_b39 hi40 62 rfl (by decide +kernel) ?_
        refine v_aload_n C 0 0 rfl 63 rfl (by decide +kernel) ?_
        refine v_iload_n C 1 1 rfl 64 rfl (by decide +kernel) ?_
        obtain ⟨r43, σ42, hcr43, hf⟩ := cl2_e hf
        refine v_cV C 9 rfl (ns_kd_lt hk_a0 (by decide)) hk_a0 (by decide) [.int x1] [] (c_M_isGood G l σ41 a0 x1 hcr43) 221 1 tw_1275 tw_1272 tw_1274 ts_96 tw_10 hd_M_isGood rfl ⟨(Nat.le_of_ble_eq_true rfl), (Nat.le_of_ble_eq_true rfl)⟩ ⟨(Nat.le_of_ble_eq_true rfl), (Nat.le_of_ble_eq_true rfl)⟩ (Nat.le_of_ble_eq_true rfl) rfl 67 rfl (by decide +kernel) [.int r43] rfl ?_
        refine v_if_eq C 74 70 rfl (by decide +kernel) (fun h44 => ?_) (fun h44 => ?_)
        · have hf := ite2_t hf h44
          obtain ⟨z45, hz45, hf⟩ := bnd_e hf
          refine v_iinc C 5 (1) 5 z45 rfl (by rw [hz45]; rfl) [(5, .int z45), (0, .ref (G.1 + a0)), (1, .int x1), (2, .int x2), (3, .int x3), (4, .int x4)] (by decide) rfl 77 rfl (by decide +kernel) ?_
          refine v_goto C 42 (by decide +kernel) ?_
          refine v_sub [1, 2, 3, 4, 5, 0] rfl ?_
          exact ih σ42 a0 x1 x2 x3 x4 z45 hk_a0 hf
        · have hf := ite2_f hf h44
          refine v_iload C 5 5 rfl 72 rfl (by decide +kernel) ?_
          refine v_istore C 4 [(4, .int x5), (0, .ref (G.1 + a0)), (1, .int x1), (2, .int x2), (3, .int x3), (5, .int x5)] (by decide) rfl 74 rfl (by decide +kernel) ?_
          obtain ⟨z46, hz46, hf⟩ := bnd_e hf
          refine v_iinc C 5 (1) 5 z46 rfl (by rw [hz46]; rfl) [(5, .int z46), (4, .int x5), (0, .ref (G.1 + a0)), (1, .int x1), (2, .int x2), (3, .int x3)] (by decide) rfl 77 rfl (by decide +kernel) ?_
          refine v_goto C 42 (by decide +kernel) ?_
          refine v_sub [2, 3, 4, 5, 1, 0] rfl ?_
          exact ih σ42 a0 x1 x2 x3 x5 z46 hk_a0 hf
theorem c_M_lucky (G : ns_G) (l : Launch) (σ : ns_St) (a0 : Nat) (x1 : Int32) {r : Int32} {σ' : ns_St} (hf : g_M_lucky σ a0 x1 = some (r, σ')) : ns_ok G l ⟨"NinthStepModel", "lucky", "(I)I"⟩ prog_11_method_71_code 6 (some .int) 5 111 0 0 [.ref (G.1 + a0), .int x1] ns_N σ (some (.int r)) ns_N σ' := by
  refine v_open (by decide) (Nat.le_of_ble_eq_true rfl) rfl ?_
  intro p e s m below meth c C hr _
  have C : ns_Cx G p s m _ meth c prog_11_method_71_code "NinthStepModel" 6 := C
  unfold g_M_lucky at hf
  obtain ⟨hk_a0, hf⟩ := grd_e hf
  refine v_aload_n C 0 0 rfl 1 rfl (by decide +kernel) ?_
  refine v_iload_n C 1 1 rfl 2 rfl (by decide +kernel) ?_
  obtain ⟨r48, σ47, hcr48, hf⟩ := cl2_e hf
  refine v_cV C 9 rfl (ns_kd_lt hk_a0 (by decide)) hk_a0 (by decide) [.int x1] [] (c_M_isMule G l σ a0 x1 hcr48) 84 1 tw_1111 tw_1108 tw_1110 ts_76 tw_10 hd_M_isMule rfl ⟨(Nat.le_of_ble_eq_true rfl), (Nat.le_of_ble_eq_true rfl)⟩ ⟨(Nat.le_of_ble_eq_true rfl), (Nat.le_of_ble_eq_true rfl)⟩ (Nat.le_of_ble_eq_true rfl) rfl 5 rfl (by decide +kernel) [.int r48] rfl ?_
  refine v_if_ne C 15 8 rfl (by decide +kernel) (fun h49 => ?_) (fun h49 => ?_)
  · have hf := ite2_f hf h49
    refine v_aload_n C 0 0 rfl 16 rfl (by decide +kernel) ?_
    obtain ⟨b50, hb50, hf⟩ := drf_e hf
    obtain ⟨hk_b50, hf⟩ := grd_e hf
    refine v_getR C 9 7 hb50 rfl nin_9 (ns_kd_lt hk_a0 (by decide)) hk_a0 (by decide) (by decide) rfl 26 tw_982 rfl 19 rfl (by decide +kernel) ?_
    refine v_iload_n C 1 1 rfl 20 rfl (by decide +kernel) ?_
    obtain ⟨hi51, hf⟩ := grd_e hf
    refine v_iald C (ns_kd_lt hk_b50 (by decide)) hk_b50 hi51 21 rfl (by decide +kernel) ?_
    obtain ⟨z52, hz52, hf⟩ := bnd_e hf
    refine v_nmI hz52 ?_
    refine v_istore_n C 2 [(2, .int z52), (0, .ref (G.1 + a0)), (1, .int x1)] (by decide) rfl 22 rfl (by decide +kernel) ?_
    refine v_aload_n C 0 1 rfl 23 rfl (by decide +kernel) ?_
    obtain ⟨b53, hb53, hf⟩ := drf_e hf
    obtain ⟨hk_b53, hf⟩ := grd_e hf
    refine v_getR C 9 9 hb53 rfl nin_9 (ns_kd_lt hk_a0 (by decide)) hk_a0 (by decide) (by decide) rfl 32 tw_984 rfl 26 rfl (by decide +kernel) ?_
    refine v_iload_n C 1 2 rfl 27 rfl (by decide +kernel) ?_
    obtain ⟨hi54, hf⟩ := grd_e hf
    refine v_iald C (ns_kd_lt hk_b53 (by decide)) hk_b53 hi54 28 rfl (by decide +kernel) ?_
    obtain ⟨z55, hz55, hf⟩ := bnd_e hf
    refine v_nmI hz55 ?_
    refine v_istore_n C 3 [(3, .int z55), (2, .int z52), (0, .ref (G.1 + a0)), (1, .int x1)] (by decide) rfl 29 rfl (by decide +kernel) ?_
    refine v_iconst C (-1) (-1) (by decide) 30 rfl (by decide +kernel) ?_
    refine v_istore C 4 [(4, .int (-1 : Int32)), (3, .int z55), (2, .int z52), (0, .ref (G.1 + a0)), (1, .int x1)] (by decide) rfl 32 rfl (by decide +kernel) ?_
    refine v_aload_n C 0 3 rfl 33 rfl (by decide +kernel) ?_
    obtain ⟨b56, hb56, hf⟩ := drf_e hf
    obtain ⟨hk_b56, hf⟩ := grd_e hf
    refine v_getR C 9 9 hb56 rfl nin_9 (ns_kd_lt hk_a0 (by decide)) hk_a0 (by decide) (by decide) rfl 32 tw_984 rfl 36 rfl (by decide +kernel) ?_
    refine v_iload_n C 1 4 rfl 37 rfl (by decide +kernel) ?_
    refine v_iconst C (0) (0) (by decide) 38 rfl (by decide +kernel) ?_
    obtain ⟨hi57, hf⟩ := grd_e hf
    obtain ⟨σ58, hσ58, hf⟩ := bnd_e hf
    refine v_iast C hσ58 (ns_kd_lt hk_b56 (by decide)) hk_b56 hi57 39 rfl (by decide +kernel) ?_
    refine v_iconst C (2) (2) (by decide) 40 rfl (by decide +kernel) ?_
    refine v_istore C 5 [(5, .int (2 : Int32)), (4, .int (-1 : Int32)), (3, .int z55), (2, .int z52), (0, .ref (G.1 + a0)), (1, .int x1)] (by decide) rfl 42 rfl (by decide +kernel) ?_
    refine v_sub [4, 5, 3, 2, 1, 0] rfl ?_
    exact t_M_lucky_42 G l C hr  ns_F σ58 a0 x1 z52 z55 (-1 : Int32) (2 : Int32) hk_a0 hf
  · have hf := ite2_t hf h49
    refine v_aload_n C 0 0 rfl 9 rfl (by decide +kernel) ?_
    refine v_bipush C (-2) (-2) (by decide) 11 rfl (by decide +kernel) ?_
    obtain ⟨r60, σ59, hcr60, hf⟩ := cl2_e hf
    refine v_cV C 9 rfl (ns_kd_lt hk_a0 (by decide)) hk_a0 (by decide) [.int (-2 : Int32)] [] (c_M_no G l σ47 a0 (-2 : Int32) hcr60) 73 1 tw_1079 tw_1076 tw_1078 ts_73 tw_10 hd_M_no rfl ⟨(Nat.le_of_ble_eq_true rfl), (Nat.le_of_ble_eq_true rfl)⟩ ⟨(Nat.le_of_ble_eq_true rfl), (Nat.le_of_ble_eq_true rfl)⟩ (Nat.le_of_ble_eq_true rfl) rfl 14 rfl (by decide +kernel) [.int r60] rfl ?_
    obtain ⟨rfl, rfl⟩ := ret_e hf
    exact v_iret C hr (by decide +kernel)
theorem hd_M_lucky : (⟨"NinthStepModel", "lucky", "(I)I"⟩ : MethodName).cls = "NinthStepModel" ∧ (⟨"NinthStepModel", "lucky", "(I)I"⟩ : MethodName).cls ≠ "java/lang/invoke/MethodHandle" ∧ (⟨"NinthStepModel", "lucky", "(I)I"⟩ : MethodName).cls ≠ "java/lang/invoke/VarHandle" ∧ (parseMethodDescriptor (⟨"NinthStepModel", "lucky", "(I)I"⟩ : MethodName).desc).map (fun d => d.parameters.length) = some 1 := by decide +kernel
def g_M_rests (σ : ns_St) (a0 : Nat) (x1 : Int32) : Option (Unit × ns_St) := grd (ns_kd a0 = 9) <| drf (σ.2.2 a0 10) fun b11 => grd (ns_kd b11 = 10) <| grd (ns_in x1 (ns_ln b11)) <| cl2 (g_M_rest σ a0 x1) fun r14 σ13 => grd (ns_in x1 (ns_ln b11)) <| bnd (ns_pI σ13 b11 (ns_ix x1) ((σ.1 b11 (ns_ix x1)) + r14)) fun σ16 => cl2 (g_M_isThere σ16 a0 (σ16.1 a0 27) (4 : Int32)) fun r18 σ17 => ite2 (r18 = 0) (some ((), σ17)) (bnd (ns_pI σ17 a0 13 ((σ17.1 a0 13) + (1 : Int32))) fun σ20 => some ((), σ20))
theorem c_M_rests (G : ns_G) (l : Launch) (σ : ns_St) (a0 : Nat) (x1 : Int32) {r : Unit} {σ' : ns_St} (hf : g_M_rests σ a0 x1 = some (r, σ')) : ns_ok G l ⟨"NinthStepModel", "rests", "(I)V"⟩ prog_11_method_73_code 2 none 1 22 0 0 [.ref (G.1 + a0), .int x1] ns_N σ none ns_N σ' := by
  refine v_open (by decide) (Nat.le_of_ble_eq_true rfl) rfl ?_
  intro p e s m below meth c C hr _
  have C : ns_Cx G p s m _ meth c prog_11_method_73_code "NinthStepModel" 2 := C
  unfold g_M_rests at hf
  obtain ⟨hk_a0, hf⟩ := grd_e hf
  refine v_aload_n C 0 0 rfl 1 rfl (by decide +kernel) ?_
  obtain ⟨b11, hb11, hf⟩ := drf_e hf
  obtain ⟨hk_b11, hf⟩ := grd_e hf
  refine v_getR C 9 10 hb11 rfl nin_9 (ns_kd_lt hk_a0 (by decide)) hk_a0 (by decide) (by decide) rfl 35 tw_985 rfl 4 rfl (by decide +kernel) ?_
  refine v_iload_n C 1 1 rfl 5 rfl (by decide +kernel) ?_
  refine v_dup2_11 C rfl rfl 6 rfl (by decide +kernel) ?_
  obtain ⟨hi12, hf⟩ := grd_e hf
  refine v_iald C (ns_kd_lt hk_b11 (by decide)) hk_b11 hi12 7 rfl (by decide +kernel) ?_
  refine v_aload_n C 0 0 rfl 8 rfl (by decide +kernel) ?_
  refine v_iload_n C 1 1 rfl 9 rfl (by decide +kernel) ?_
  obtain ⟨r14, σ13, hcr14, hf⟩ := cl2_e hf
  refine v_cV C 9 rfl (ns_kd_lt hk_a0 (by decide)) hk_a0 (by decide) [.int x1] [.int (σ.1 b11 (ns_ix x1)), .int x1, .ref (G.1 + b11)] (c_M_rest G l σ a0 x1 hcr14) 94 1 tw_1122 tw_1119 tw_1121 ts_77 tw_10 hd_M_rest rfl ⟨(Nat.le_of_ble_eq_true rfl), (Nat.le_of_ble_eq_true rfl)⟩ ⟨(Nat.le_of_ble_eq_true rfl), (Nat.le_of_ble_eq_true rfl)⟩ (Nat.le_of_ble_eq_true rfl) rfl 12 rfl (by decide +kernel) [.int r14, .int (σ.1 b11 (ns_ix x1)), .int x1, .ref (G.1 + b11)] rfl ?_
  refine v_iadd C 13 rfl (by decide +kernel) ?_
  obtain ⟨hi15, hf⟩ := grd_e hf
  obtain ⟨σ16, hσ16, hf⟩ := bnd_e hf
  refine v_iast C hσ16 (ns_kd_lt hk_b11 (by decide)) hk_b11 hi15 14 rfl (by decide +kernel) ?_
  refine v_aload_n C 0 0 rfl 15 rfl (by decide +kernel) ?_
  refine v_aload_n C 0 0 rfl 16 rfl (by decide +kernel) ?_
  refine v_getI C 9 27 rfl nin_9 (ns_kd_lt hk_a0 (by decide)) hk_a0 (by decide) (by decide) rfl 191 tw_1002 rfl 19 rfl (by decide +kernel) ?_
  refine v_iconst C (4) (4) (by decide) 20 rfl (by decide +kernel) ?_
  obtain ⟨r18, σ17, hcr18, hf⟩ := cl2_e hf
  refine v_cV C 9 rfl (ns_kd_lt hk_a0 (by decide)) hk_a0 (by decide) [.int (σ16.1 a0 27), .int (4 : Int32)] [] (c_M_isThere G l σ16 a0 (σ16.1 a0 27) (4 : Int32) hcr18) 87 2 tw_1130 tw_1127 tw_1129 ts_79 tw_10 hd_M_isThere rfl ⟨(Nat.le_of_ble_eq_true rfl), (Nat.le_of_ble_eq_true rfl)⟩ ⟨(Nat.le_of_ble_eq_true rfl), (Nat.le_of_ble_eq_true rfl)⟩ (Nat.le_of_ble_eq_true rfl) rfl 23 rfl (by decide +kernel) [.int r18] rfl ?_
  refine v_if_eq C 36 26 rfl (by decide +kernel) (fun h19 => ?_) (fun h19 => ?_)
  · have hf := ite2_t hf h19
    obtain ⟨rfl, rfl⟩ := ret_e hf
    exact v_vret C hr (by decide +kernel)
  · have hf := ite2_f hf h19
    refine v_aload_n C 0 0 rfl 27 rfl (by decide +kernel) ?_
    refine v_dup C rfl 28 rfl (by decide +kernel) ?_
    refine v_getI C 9 13 rfl nin_9 (ns_kd_lt hk_a0 (by decide)) hk_a0 (by decide) (by decide) rfl 249 tw_988 rfl 31 rfl (by decide +kernel) ?_
    refine v_iconst C (1) (1) (by decide) 32 rfl (by decide +kernel) ?_
    refine v_iadd C 33 rfl (by decide +kernel) ?_
    obtain ⟨σ20, hσ20, hf⟩ := bnd_e hf
    refine v_putI C 9 13 hσ20 rfl nin_9 ny_9 nty_9 nnm_9 (ns_kd_lt hk_a0 (by decide)) hk_a0 (by decide) (by decide) rfl rfl rfl rfl 249 tw_988 rfl 36 rfl (by decide +kernel) ?_
    obtain ⟨rfl, rfl⟩ := ret_e hf
    exact v_vret C hr (by decide +kernel)
theorem hd_M_rests : (⟨"NinthStepModel", "rests", "(I)V"⟩ : MethodName).cls = "NinthStepModel" ∧ (⟨"NinthStepModel", "rests", "(I)V"⟩ : MethodName).cls ≠ "java/lang/invoke/MethodHandle" ∧ (⟨"NinthStepModel", "rests", "(I)V"⟩ : MethodName).cls ≠ "java/lang/invoke/VarHandle" ∧ (parseMethodDescriptor (⟨"NinthStepModel", "rests", "(I)V"⟩ : MethodName).desc).map (fun d => d.parameters.length) = some 1 := by decide +kernel
def g_M_stays (σ : ns_St) (a0 : Nat) (x1 : Int32) : Option (Unit × ns_St) := grd (ns_kd a0 = 9) <| drf (σ.2.2 a0 7) fun b10 => grd (ns_kd b10 = 10) <| grd (ns_in x1 (ns_ln b10)) <| bnd (ns_pI σ b10 (ns_ix x1) (σ.1 a0 26)) fun σ12 => drf (σ12.2.2 a0 8) fun b13 => grd (ns_kd b13 = 10) <| grd (ns_in x1 (ns_ln b13)) <| bnd (ns_pI σ12 b13 (ns_ix x1) (σ12.1 a0 27)) fun σ15 => drf (σ15.2.2 a0 9) fun b16 => grd (ns_kd b16 = 10) <| grd (ns_in x1 (ns_ln b16)) <| bnd (ns_pI σ15 b16 (ns_ix x1) (σ15.1 a0 28)) fun σ18 => some ((), σ18)
theorem c_M_stays (G : ns_G) (l : Launch) (σ : ns_St) (a0 : Nat) (x1 : Int32) {r : Unit} {σ' : ns_St} (hf : g_M_stays σ a0 x1 = some (r, σ')) : ns_ok G l ⟨"NinthStepModel", "stays", "(I)V"⟩ prog_11_method_72_code 2 none 0 0 0 0 [.ref (G.1 + a0), .int x1] ns_N σ none ns_N σ' := by
  refine v_open (by decide) (Nat.le_of_ble_eq_true rfl) rfl ?_
  intro p e s m below meth c C hr _
  have C : ns_Cx G p s m _ meth c prog_11_method_72_code "NinthStepModel" 2 := C
  unfold g_M_stays at hf
  obtain ⟨hk_a0, hf⟩ := grd_e hf
  refine v_aload_n C 0 0 rfl 1 rfl (by decide +kernel) ?_
  obtain ⟨b10, hb10, hf⟩ := drf_e hf
  obtain ⟨hk_b10, hf⟩ := grd_e hf
  refine v_getR C 9 7 hb10 rfl nin_9 (ns_kd_lt hk_a0 (by decide)) hk_a0 (by decide) (by decide) rfl 26 tw_982 rfl 4 rfl (by decide +kernel) ?_
  refine v_iload_n C 1 1 rfl 5 rfl (by decide +kernel) ?_
  refine v_aload_n C 0 0 rfl 6 rfl (by decide +kernel) ?_
  refine v_getI C 9 26 rfl nin_9 (ns_kd_lt hk_a0 (by decide)) hk_a0 (by decide) (by decide) rfl 188 tw_1001 rfl 9 rfl (by decide +kernel) ?_
  obtain ⟨hi11, hf⟩ := grd_e hf
  obtain ⟨σ12, hσ12, hf⟩ := bnd_e hf
  refine v_iast C hσ12 (ns_kd_lt hk_b10 (by decide)) hk_b10 hi11 10 rfl (by decide +kernel) ?_
  refine v_aload_n C 0 0 rfl 11 rfl (by decide +kernel) ?_
  obtain ⟨b13, hb13, hf⟩ := drf_e hf
  obtain ⟨hk_b13, hf⟩ := grd_e hf
  refine v_getR C 9 8 hb13 rfl nin_9 (ns_kd_lt hk_a0 (by decide)) hk_a0 (by decide) (by decide) rfl 29 tw_983 rfl 14 rfl (by decide +kernel) ?_
  refine v_iload_n C 1 1 rfl 15 rfl (by decide +kernel) ?_
  refine v_aload_n C 0 0 rfl 16 rfl (by decide +kernel) ?_
  refine v_getI C 9 27 rfl nin_9 (ns_kd_lt hk_a0 (by decide)) hk_a0 (by decide) (by decide) rfl 191 tw_1002 rfl 19 rfl (by decide +kernel) ?_
  obtain ⟨hi14, hf⟩ := grd_e hf
  obtain ⟨σ15, hσ15, hf⟩ := bnd_e hf
  refine v_iast C hσ15 (ns_kd_lt hk_b13 (by decide)) hk_b13 hi14 20 rfl (by decide +kernel) ?_
  refine v_aload_n C 0 0 rfl 21 rfl (by decide +kernel) ?_
  obtain ⟨b16, hb16, hf⟩ := drf_e hf
  obtain ⟨hk_b16, hf⟩ := grd_e hf
  refine v_getR C 9 9 hb16 rfl nin_9 (ns_kd_lt hk_a0 (by decide)) hk_a0 (by decide) (by decide) rfl 32 tw_984 rfl 24 rfl (by decide +kernel) ?_
  refine v_iload_n C 1 1 rfl 25 rfl (by decide +kernel) ?_
  refine v_aload_n C 0 0 rfl 26 rfl (by decide +kernel) ?_
  refine v_getI C 9 28 rfl nin_9 (ns_kd_lt hk_a0 (by decide)) hk_a0 (by decide) (by decide) rfl 194 tw_1003 rfl 29 rfl (by decide +kernel) ?_
  obtain ⟨hi17, hf⟩ := grd_e hf
  obtain ⟨σ18, hσ18, hf⟩ := bnd_e hf
  refine v_iast C hσ18 (ns_kd_lt hk_b16 (by decide)) hk_b16 hi17 30 rfl (by decide +kernel) ?_
  obtain ⟨rfl, rfl⟩ := ret_e hf
  exact v_vret C hr (by decide +kernel)
theorem hd_M_stays : (⟨"NinthStepModel", "stays", "(I)V"⟩ : MethodName).cls = "NinthStepModel" ∧ (⟨"NinthStepModel", "stays", "(I)V"⟩ : MethodName).cls ≠ "java/lang/invoke/MethodHandle" ∧ (⟨"NinthStepModel", "stays", "(I)V"⟩ : MethodName).cls ≠ "java/lang/invoke/VarHandle" ∧ (parseMethodDescriptor (⟨"NinthStepModel", "stays", "(I)V"⟩ : MethodName).desc).map (fun d => d.parameters.length) = some 1 := by decide +kernel
