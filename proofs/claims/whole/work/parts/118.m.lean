def g_M_turning_231 (kr : ns_St → Nat → Int32 → Int32 → Option (Int32 × ns_St))  (σ : ns_St) (a0 : Nat) (x3 : Int32) (x4 : Int32) (x5 : Int32) (x6 : Int32) (x7 : Int32) : Option (Int32 × ns_St) := bnd (ns_pI σ a0 27 x3) fun σ53 => bnd (ns_pI σ53 a0 26 x5) fun σ54 => bnd (ns_pI σ54 a0 28 x4) fun σ55 => drf (σ55.2.2 a0 29) fun b56 => grd (ns_kd b56 = 10) <| grd (ns_in x6 (ns_ln b56)) <| bnd (ns_pI σ55 b56 (ns_ix x6) x7) fun σ58 => some (x7, σ58)
def g_M_turning_181 (kr : ns_St → Nat → Int32 → Int32 → Option (Int32 × ns_St)) (kh108 : ns_St → Nat → Int32 → Int32 → Int32 → Int32 → Int32 → Int32 → Int32 → Int32 → Option (Int32 × ns_St)) (σ : ns_St) (a0 : Nat) (x1 : Int32) (x3 : Int32) (x4 : Int32) (x5 : Int32) (x6 : Int32) (x7 : Int32) (x8 : Int32) (x9 : Int32) (x10 : Int32) : Option (Int32 × ns_St) := bnd (ns_pI σ a0 27 x3) fun σ59 => bnd (ns_pI σ59 a0 26 x5) fun σ60 => bnd (ns_pI σ60 a0 28 (x10 + (1 : Int32))) fun σ61 => cl2 (g_M_stopsHere σ61 a0) fun r63 σ62 => ite2 (r63 = 0) (bnd (x9 + 1) fun z69 => kh108 σ62 a0 x1 x3 x4 x5 x6 x7 x8 z69) (cl2 (g_M_isThere σ62 a0 x3 (4 : Int32)) fun r66 σ65 => ite2 (r66 = 0) (bnd (x9 + 1) fun z68 => kh108 σ65 a0 x1 x3 x4 x5 x6 x7 (1 : Int32) z68) (g_M_turning_231 kr σ65 a0 x3 x4 x5 x6 x7))
def g_M_turning_164 (kr : ns_St → Nat → Int32 → Int32 → Option (Int32 × ns_St)) (kh108 : ns_St → Nat → Int32 → Int32 → Int32 → Int32 → Int32 → Int32 → Int32 → Int32 → Option (Int32 × ns_St)) (σ : ns_St) (a0 : Nat) (x1 : Int32) (x3 : Int32) (x4 : Int32) (x5 : Int32) (x6 : Int32) (x7 : Int32) (x8 : Int32) (x9 : Int32) (x10 : Int32) (x11 : Int32) : Option (Int32 × ns_St) := cl2 (kr σ a0 x1 x11) fun r71 σ70 => cl2 (g_Math_min σ70 x7 (x9 + r71)) fun r73 σ72 => g_M_turning_181 kr kh108 σ72 a0 x1 x3 x4 x5 x6 r73 x8 x9 x10
def g_M_turning_140 (kr : ns_St → Nat → Int32 → Int32 → Option (Int32 × ns_St)) (kh108 : ns_St → Nat → Int32 → Int32 → Int32 → Int32 → Int32 → Int32 → Int32 → Int32 → Option (Int32 × ns_St)) (σ : ns_St) (a0 : Nat) (x1 : Int32) (x3 : Int32) (x4 : Int32) (x5 : Int32) (x6 : Int32) (x7 : Int32) (x8 : Int32) (x9 : Int32) (x10 : Int32) : Option (Int32 × ns_St) := cl2 (g_M_stepped σ a0 (0 : Int32)) fun r75 σ74 => ite2 (r75 = 0) (g_M_turning_164 kr kh108 σ74 a0 x1 x3 x4 x5 x6 x7 x8 x9 x10 r75) (cl2 (g_M_isThere σ74 a0 (σ74.1 a0 27) (4 : Int32)) fun r78 σ77 => ite2 (r78 = 0) (g_M_turning_164 kr kh108 σ77 a0 x1 x3 x4 x5 x6 x7 x8 x9 x10 r75) (g_M_turning_181 kr kh108 σ77 a0 x1 x3 x4 x5 x6 x7 x8 x9 x10))
def g_M_turning_108 (kr : ns_St → Nat → Int32 → Int32 → Option (Int32 × ns_St))  : Nat → ns_St → Nat → Int32 → Int32 → Int32 → Int32 → Int32 → Int32 → Int32 → Int32 → Option (Int32 × ns_St)
  | 0, _, _, _, _, _, _, _, _, _, _ => none
  | f + 1, σ, a0, x1, x3, x4, x5, x6, x7, x8, x9 => ite2 ((4 : Int32) ≤ x9) (g_M_turning_231 kr σ a0 x3 x4 x5 x6 x7) (bnd (σ.1 a0 28) fun z81 => ite2 (x8 = 0) (ite2 (x3 = x1) (g_M_turning_140 kr (g_M_turning_108 kr f) σ a0 x1 x3 x4 x5 x6 x7 x8 x9 z81) (cl2 (g_M_isThere σ a0 x3 (8 : Int32)) fun r85 σ84 => ite2 (r85 = 0) (g_M_turning_140 kr (g_M_turning_108 kr f) σ84 a0 x1 x3 x4 x5 x6 x7 x8 x9 z81) (g_M_turning_181 kr (g_M_turning_108 kr f) σ84 a0 x1 x3 x4 x5 x6 x7 x8 x9 z81))) (g_M_turning_140 kr (g_M_turning_108 kr f) σ a0 x1 x3 x4 x5 x6 x7 x8 x9 z81))
def g_M_turning_76 (kr : ns_St → Nat → Int32 → Int32 → Option (Int32 × ns_St))  (σ : ns_St) (s0 : Int32) (s1 : Int32) (a0 : Nat) (x1 : Int32) (x2 : Int32) (x3 : Int32) (x4 : Int32) (x5 : Int32) : Option (Int32 × ns_St) := bnd (s0 + s1) fun z87 => drf (σ.2.2 a0 29) fun b88 => grd (ns_kd b88 = 10) <| grd (ns_in z87 (ns_ln b88)) <| ite2 ((σ.1 b88 (ns_ix z87)) ≤ 0) (g_M_turning_108 kr ns_F σ a0 x1 x3 x4 x5 z87 (1000 : Int32) x2 (0 : Int32)) (drf (σ.2.2 a0 29) fun b91 => grd (ns_kd b91 = 10) <| grd (ns_in z87 (ns_ln b91)) <| some ((σ.1 b91 (ns_ix z87)), σ))
def gr_M_turning (kr : ns_St → Nat → Int32 → Int32 → Option (Int32 × ns_St)) (σ : ns_St) (a0 : Nat) (x1 : Int32) (x2 : Int32) : Option (Int32 × ns_St) := grd (ns_kd a0 = 9) <| bnd (σ.1 a0 27) fun z93 => bnd (σ.1 a0 28) fun z94 => bnd (σ.1 a0 26) fun z95 => ite2 (z93 = (σ.1 a0 3)) (ite2 (x2 = 0) (ite2 (z93 = x1) (some ((1 : Int32), σ)) (cl2 (g_M_isThere σ a0 z93 (8 : Int32)) fun r103 σ102 => ite2 (r103 = 0) (some ((1 : Int32), σ102)) (some ((1000 : Int32), σ102)))) (some ((1 : Int32), σ))) (cl2 (g_Math_min σ z94 z95) fun r98 σ97 => ite2 (x2 = 0) (g_M_turning_76 kr σ97 (((130 : Int32) * z93) + ((2 : Int32) * r98)) (0 : Int32) a0 x1 x2 z93 z94 z95) (g_M_turning_76 kr σ97 (((130 : Int32) * z93) + ((2 : Int32) * r98)) (1 : Int32) a0 x1 x2 z93 z94 z95))
def g_M_turning : Nat → ns_St → Nat → Int32 → Int32 → Option (Int32 × ns_St)
  | 0, _, _, _, _ => none
  | d + 1, σ, a0, x1, x2 => gr_M_turning (g_M_turning d) σ a0 x1 x2
theorem hd_M_turning : (⟨"NinthStepModel", "turning", "(IZ)I"⟩ : MethodName).cls = "NinthStepModel" ∧ (⟨"NinthStepModel", "turning", "(IZ)I"⟩ : MethodName).cls ≠ "java/lang/invoke/MethodHandle" ∧ (⟨"NinthStepModel", "turning", "(IZ)I"⟩ : MethodName).cls ≠ "java/lang/invoke/VarHandle" ∧ (parseMethodDescriptor (⟨"NinthStepModel", "turning", "(IZ)I"⟩ : MethodName).desc).map (fun d => d.parameters.length) = some 2 := by decide +kernel
theorem t_M_turning_231 (G : ns_G) (l : Launch) {p : Program} {e : Env} {s : State} {m : MethodId} {args : Array Value} {below : List Frame} {meth : Method} {c : Code} (C : ns_Cx G p s m args meth c prog_11_method_53_code "NinthStepModel" 12) (hr : meth.sig.returnType = (some .int)) {r : Int32} {σ' : ns_St} (d : Nat) {kr : ns_St → Nat → Int32 → Int32 → Option (Int32 × ns_St)} (hkr : ∀ (σ : ns_St) (a0 : Nat) (x1 : Int32) (x2 : Int32) (r : Int32) (σ' : ns_St), kr σ a0 x1 x2 = some (r, σ') → ns_ok G l ⟨"NinthStepModel", "turning", "(IZ)I"⟩ prog_11_method_53_code 12 (some .int) (3 + d) (64 + 31 * d) 0 0 [.ref (G.1 + a0), .int x1, .int x2] ns_N σ (some (.int r)) ns_N σ')  (σ : ns_St) (a0 : Nat) (x3 : Int32) (x4 : Int32) (x5 : Int32) (x6 : Int32) (x7 : Int32) (hk_a0 : ns_kd a0 = 9) (hf : g_M_turning_231 kr σ a0 x3 x4 x5 x6 x7 = some (r, σ')) : VV G p l e { frames := 3 + (d + 1), cells := 0, slots := 0, locals := 64 + 31 * (d + 1) } s m args below meth c 12 0 0 (MQ below (ns_Qc G (some (.int r)) ns_N σ') args s 0 0 (ns_A G)) ns_N σ 231 [(0, .ref (G.1 + a0)), (3, .int x3), (4, .int x4), (5, .int x5), (6, .int x6), (7, .int x7)] [] := by
  unfold g_M_turning_231 at hf
  refine v_aload_n C 0 0 rfl 232 rfl (by decide +kernel) ?_
  refine v_iload_n C 3 1 rfl 233 rfl (by decide +kernel) ?_
  obtain ⟨σ53, hσ53, hf⟩ := bnd_e hf
  refine v_putI C 9 27 hσ53 rfl nin_9 ny_9 nty_9 nnm_9 (ns_kd_lt hk_a0 (by decide)) hk_a0 (by decide) (by decide) rfl rfl rfl rfl 191 tw_1002 rfl 236 rfl (by decide +kernel) ?_
  refine v_aload_n C 0 0 rfl 237 rfl (by decide +kernel) ?_
  refine v_iload C 5 3 rfl 239 rfl (by decide +kernel) ?_
  obtain ⟨σ54, hσ54, hf⟩ := bnd_e hf
  refine v_putI C 9 26 hσ54 rfl nin_9 ny_9 nty_9 nnm_9 (ns_kd_lt hk_a0 (by decide)) hk_a0 (by decide) (by decide) rfl rfl rfl rfl 188 tw_1001 rfl 242 rfl (by decide +kernel) ?_
  refine v_aload_n C 0 0 rfl 243 rfl (by decide +kernel) ?_
  refine v_iload C 4 2 rfl 245 rfl (by decide +kernel) ?_
  obtain ⟨σ55, hσ55, hf⟩ := bnd_e hf
  refine v_putI C 9 28 hσ55 rfl nin_9 ny_9 nty_9 nnm_9 (ns_kd_lt hk_a0 (by decide)) hk_a0 (by decide) (by decide) rfl rfl rfl rfl 194 tw_1003 rfl 248 rfl (by decide +kernel) ?_
  refine v_aload_n C 0 0 rfl 249 rfl (by decide +kernel) ?_
  obtain ⟨b56, hb56, hf⟩ := drf_e hf
  obtain ⟨hk_b56, hf⟩ := grd_e hf
  refine v_getR C 9 29 hb56 rfl nin_9 (ns_kd_lt hk_a0 (by decide)) hk_a0 (by decide) (by decide) rfl 53 tw_1004 rfl 252 rfl (by decide +kernel) ?_
  refine v_iload C 6 4 rfl 254 rfl (by decide +kernel) ?_
  refine v_iload C 7 5 rfl 256 rfl (by decide +kernel) ?_
  obtain ⟨hi57, hf⟩ := grd_e hf
  obtain ⟨σ58, hσ58, hf⟩ := bnd_e hf
  refine v_iast C hσ58 (ns_kd_lt hk_b56 (by decide)) hk_b56 hi57 257 rfl (by decide +kernel) ?_
  refine v_iload C 7 5 rfl 259 rfl (by decide +kernel) ?_
  obtain ⟨rfl, rfl⟩ := ret_e hf
  exact v_iret C hr (by decide +kernel)
theorem t_M_turning_181 (G : ns_G) (l : Launch) {p : Program} {e : Env} {s : State} {m : MethodId} {args : Array Value} {below : List Frame} {meth : Method} {c : Code} (C : ns_Cx G p s m args meth c prog_11_method_53_code "NinthStepModel" 12) (hr : meth.sig.returnType = (some .int)) {r : Int32} {σ' : ns_St} (d : Nat) {kr : ns_St → Nat → Int32 → Int32 → Option (Int32 × ns_St)} (hkr : ∀ (σ : ns_St) (a0 : Nat) (x1 : Int32) (x2 : Int32) (r : Int32) (σ' : ns_St), kr σ a0 x1 x2 = some (r, σ') → ns_ok G l ⟨"NinthStepModel", "turning", "(IZ)I"⟩ prog_11_method_53_code 12 (some .int) (3 + d) (64 + 31 * d) 0 0 [.ref (G.1 + a0), .int x1, .int x2] ns_N σ (some (.int r)) ns_N σ') {kh108 : ns_St → Nat → Int32 → Int32 → Int32 → Int32 → Int32 → Int32 → Int32 → Int32 → Option (Int32 × ns_St)} (hkh108 : ∀ (σ : ns_St) (a0 : Nat) (x1 : Int32) (x3 : Int32) (x4 : Int32) (x5 : Int32) (x6 : Int32) (x7 : Int32) (x8 : Int32) (x9 : Int32), ns_kd a0 = 9 → kh108 σ a0 x1 x3 x4 x5 x6 x7 x8 x9 = some (r, σ') → VV G p l e { frames := 3 + (d + 1), cells := 0, slots := 0, locals := 64 + 31 * (d + 1) } s m args below meth c 12 0 0 (MQ below (ns_Qc G (some (.int r)) ns_N σ') args s 0 0 (ns_A G)) ns_N σ 108 [(0, .ref (G.1 + a0)), (1, .int x1), (3, .int x3), (4, .int x4), (5, .int x5), (6, .int x6), (7, .int x7), (8, .int x8), (9, .int x9)] []) (σ : ns_St) (a0 : Nat) (x1 : Int32) (x3 : Int32) (x4 : Int32) (x5 : Int32) (x6 : Int32) (x7 : Int32) (x8 : Int32) (x9 : Int32) (x10 : Int32) (hk_a0 : ns_kd a0 = 9) (hf : g_M_turning_181 kr kh108 σ a0 x1 x3 x4 x5 x6 x7 x8 x9 x10 = some (r, σ')) : VV G p l e { frames := 3 + (d + 1), cells := 0, slots := 0, locals := 64 + 31 * (d + 1) } s m args below meth c 12 0 0 (MQ below (ns_Qc G (some (.int r)) ns_N σ') args s 0 0 (ns_A G)) ns_N σ 181 [(0, .ref (G.1 + a0)), (1, .int x1), (3, .int x3), (4, .int x4), (5, .int x5), (6, .int x6), (7, .int x7), (8, .int x8), (9, .int x9), (10, .int x10)] [] := by
  unfold g_M_turning_181 at hf
  refine v_aload_n C 0 0 rfl 182 rfl (by decide +kernel) ?_
  refine v_iload_n C 3 2 rfl 183 rfl (by decide +kernel) ?_
  obtain ⟨σ59, hσ59, hf⟩ := bnd_e hf
  refine v_putI C 9 27 hσ59 rfl nin_9 ny_9 nty_9 nnm_9 (ns_kd_lt hk_a0 (by decide)) hk_a0 (by decide) (by decide) rfl rfl rfl rfl 191 tw_1002 rfl 186 rfl (by decide +kernel) ?_
  refine v_aload_n C 0 0 rfl 187 rfl (by decide +kernel) ?_
  refine v_iload C 5 4 rfl 189 rfl (by decide +kernel) ?_
  obtain ⟨σ60, hσ60, hf⟩ := bnd_e hf
  refine v_putI C 9 26 hσ60 rfl nin_9 ny_9 nty_9 nnm_9 (ns_kd_lt hk_a0 (by decide)) hk_a0 (by decide) (by decide) rfl rfl rfl rfl 188 tw_1001 rfl 192 rfl (by decide +kernel) ?_
  refine v_aload_n C 0 0 rfl 193 rfl (by decide +kernel) ?_
  refine v_iload C 10 9 rfl 195 rfl (by decide +kernel) ?_
  refine v_iconst C (1) (1) (by decide) 196 rfl (by decide +kernel) ?_
  refine v_iadd C 197 rfl (by decide +kernel) ?_
  obtain ⟨σ61, hσ61, hf⟩ := bnd_e hf
  refine v_putI C 9 28 hσ61 rfl nin_9 ny_9 nty_9 nnm_9 (ns_kd_lt hk_a0 (by decide)) hk_a0 (by decide) (by decide) rfl rfl rfl rfl 194 tw_1003 rfl 200 rfl (by decide +kernel) ?_
  refine v_aload_n C 0 0 rfl 201 rfl (by decide +kernel) ?_
  obtain ⟨r63, σ62, hcr63, hf⟩ := cl2_e hf
  refine v_cV C 9 rfl (ns_kd_lt hk_a0 (by decide)) hk_a0 (by decide) [] [] (c_M_stopsHere G l σ61 a0 hcr63) 197 0 tw_1250 tw_1247 tw_1249 ts_93 tw_10 hd_M_stopsHere rfl ⟨(by dsimp only; omega), (by dsimp only; omega)⟩ ⟨(Nat.le_of_ble_eq_true rfl), (Nat.le_of_ble_eq_true rfl)⟩ (Nat.le_of_ble_eq_true rfl) rfl 204 rfl (by decide +kernel) [.int r63] rfl ?_
  refine v_if_ne C 210 207 rfl (by decide +kernel) (fun h64 => ?_) (fun h64 => ?_)
  · have hf := ite2_f hf h64
    refine v_iconst C (1) (1) (by decide) 211 rfl (by decide +kernel) ?_
    refine v_istore C 8 [(8, .int (1 : Int32)), (0, .ref (G.1 + a0)), (1, .int x1), (3, .int x3), (4, .int x4), (5, .int x5), (6, .int x6), (7, .int x7), (9, .int x9), (10, .int x10)] (by decide) rfl 213 rfl (by decide +kernel) ?_
    refine v_aload_n C 0 1 rfl 214 rfl (by decide +kernel) ?_
    refine v_iload_n C 3 3 rfl 215 rfl (by decide +kernel) ?_
    refine v_iconst C (4) (4) (by decide) 216 rfl (by decide +kernel) ?_
    obtain ⟨r66, σ65, hcr66, hf⟩ := cl2_e hf
    refine v_cV C 9 rfl (ns_kd_lt hk_a0 (by decide)) hk_a0 (by decide) [.int x3, .int (4 : Int32)] [] (c_M_isThere G l σ62 a0 x3 (4 : Int32) hcr66) 87 2 tw_1130 tw_1127 tw_1129 ts_79 tw_10 hd_M_isThere rfl ⟨(by dsimp only; omega), (by dsimp only; omega)⟩ ⟨(Nat.le_of_ble_eq_true rfl), (Nat.le_of_ble_eq_true rfl)⟩ (Nat.le_of_ble_eq_true rfl) rfl 219 rfl (by decide +kernel) [.int r66] rfl ?_
    refine v_if_eq C 225 222 rfl (by decide +kernel) (fun h67 => ?_) (fun h67 => ?_)
    · have hf := ite2_t hf h67
      obtain ⟨z68, hz68, hf⟩ := bnd_e hf
      refine v_iinc C 9 (1) 8 z68 rfl (by rw [hz68]; rfl) [(9, .int z68), (8, .int (1 : Int32)), (0, .ref (G.1 + a0)), (1, .int x1), (3, .int x3), (4, .int x4), (5, .int x5), (6, .int x6), (7, .int x7), (10, .int x10)] (by decide) rfl 228 rfl (by decide +kernel) ?_
      refine v_goto C 108 (by decide +kernel) ?_
      refine v_sub [2, 3, 4, 5, 6, 7, 8, 1, 0] rfl ?_
      exact hkh108 σ65 a0 x1 x3 x4 x5 x6 x7 (1 : Int32) z68 hk_a0 hf
    · have hf := ite2_f hf h67
      refine v_goto C 231 (by decide +kernel) ?_
      refine v_sub [1, 3, 4, 5, 6, 7] rfl ?_
      exact t_M_turning_231 G l C hr d hkr  σ65 a0 x3 x4 x5 x6 x7 hk_a0 hf
  · have hf := ite2_t hf h64
    refine v_goto C 225 (by decide +kernel) ?_
    obtain ⟨z69, hz69, hf⟩ := bnd_e hf
    refine v_iinc C 9 (1) 8 z69 rfl (by rw [hz69]; rfl) [(9, .int z69), (0, .ref (G.1 + a0)), (1, .int x1), (3, .int x3), (4, .int x4), (5, .int x5), (6, .int x6), (7, .int x7), (8, .int x8), (10, .int x10)] (by decide) rfl 228 rfl (by decide +kernel) ?_
    refine v_goto C 108 (by decide +kernel) ?_
    refine v_sub [1, 2, 3, 4, 5, 6, 7, 8, 0] rfl ?_
    exact hkh108 σ62 a0 x1 x3 x4 x5 x6 x7 x8 z69 hk_a0 hf
theorem t_M_turning_164 (G : ns_G) (l : Launch) {p : Program} {e : Env} {s : State} {m : MethodId} {args : Array Value} {below : List Frame} {meth : Method} {c : Code} (C : ns_Cx G p s m args meth c prog_11_method_53_code "NinthStepModel" 12) (hr : meth.sig.returnType = (some .int)) {r : Int32} {σ' : ns_St} (d : Nat) {kr : ns_St → Nat → Int32 → Int32 → Option (Int32 × ns_St)} (hkr : ∀ (σ : ns_St) (a0 : Nat) (x1 : Int32) (x2 : Int32) (r : Int32) (σ' : ns_St), kr σ a0 x1 x2 = some (r, σ') → ns_ok G l ⟨"NinthStepModel", "turning", "(IZ)I"⟩ prog_11_method_53_code 12 (some .int) (3 + d) (64 + 31 * d) 0 0 [.ref (G.1 + a0), .int x1, .int x2] ns_N σ (some (.int r)) ns_N σ') {kh108 : ns_St → Nat → Int32 → Int32 → Int32 → Int32 → Int32 → Int32 → Int32 → Int32 → Option (Int32 × ns_St)} (hkh108 : ∀ (σ : ns_St) (a0 : Nat) (x1 : Int32) (x3 : Int32) (x4 : Int32) (x5 : Int32) (x6 : Int32) (x7 : Int32) (x8 : Int32) (x9 : Int32), ns_kd a0 = 9 → kh108 σ a0 x1 x3 x4 x5 x6 x7 x8 x9 = some (r, σ') → VV G p l e { frames := 3 + (d + 1), cells := 0, slots := 0, locals := 64 + 31 * (d + 1) } s m args below meth c 12 0 0 (MQ below (ns_Qc G (some (.int r)) ns_N σ') args s 0 0 (ns_A G)) ns_N σ 108 [(0, .ref (G.1 + a0)), (1, .int x1), (3, .int x3), (4, .int x4), (5, .int x5), (6, .int x6), (7, .int x7), (8, .int x8), (9, .int x9)] []) (σ : ns_St) (a0 : Nat) (x1 : Int32) (x3 : Int32) (x4 : Int32) (x5 : Int32) (x6 : Int32) (x7 : Int32) (x8 : Int32) (x9 : Int32) (x10 : Int32) (x11 : Int32) (hk_a0 : ns_kd a0 = 9) (hf : g_M_turning_164 kr kh108 σ a0 x1 x3 x4 x5 x6 x7 x8 x9 x10 x11 = some (r, σ')) : VV G p l e { frames := 3 + (d + 1), cells := 0, slots := 0, locals := 64 + 31 * (d + 1) } s m args below meth c 12 0 0 (MQ below (ns_Qc G (some (.int r)) ns_N σ') args s 0 0 (ns_A G)) ns_N σ 164 [(0, .ref (G.1 + a0)), (1, .int x1), (3, .int x3), (4, .int x4), (5, .int x5), (6, .int x6), (7, .int x7), (8, .int x8), (9, .int x9), (10, .int x10), (11, .int x11)] [] := by
  unfold g_M_turning_164 at hf
  refine v_iload C 7 6 rfl 166 rfl (by decide +kernel) ?_
  refine v_iload C 9 8 rfl 168 rfl (by decide +kernel) ?_
  refine v_aload_n C 0 0 rfl 169 rfl (by decide +kernel) ?_
  refine v_iload_n C 1 1 rfl 170 rfl (by decide +kernel) ?_
  refine v_iload C 11 10 rfl 172 rfl (by decide +kernel) ?_
  obtain ⟨r71, σ70, hcr71, hf⟩ := cl2_e hf
  refine v_cV C 9 rfl (ns_kd_lt hk_a0 (by decide)) hk_a0 (by decide) [.int x1, .int x11] [.int x9, .int x7] (hkr σ a0 x1 x11 r71 σ70 hcr71) 224 2 tw_1299 tw_1296 tw_1298 ts_99 tw_10 hd_M_turning rfl ⟨(by dsimp only; omega), (by dsimp only; omega)⟩ ⟨(Nat.le_of_ble_eq_true rfl), (Nat.le_of_ble_eq_true rfl)⟩ (Nat.le_of_ble_eq_true rfl) rfl 175 rfl (by decide +kernel) [.int r71, .int x9, .int x7] rfl ?_
  refine v_iadd C 176 rfl (by decide +kernel) ?_
  obtain ⟨r73, σ72, hcr73, hf⟩ := cl2_e hf
  refine v_cS C [.int x7, .int (x9 + r71)] [] (c_Math_min G l σ70 x7 (x9 + r71) hcr73) 200 2 tw_663 tw_1251 tw_662 tw_18 hd_Math_min rfl ⟨(by dsimp only; omega), (by dsimp only; omega)⟩ ⟨(Nat.le_of_ble_eq_true rfl), (Nat.le_of_ble_eq_true rfl)⟩ (Nat.le_of_ble_eq_true rfl) rfl 179 rfl (by decide +kernel) [.int r73] rfl ?_
  refine v_istore C 7 [(7, .int r73), (0, .ref (G.1 + a0)), (1, .int x1), (3, .int x3), (4, .int x4), (5, .int x5), (6, .int x6), (8, .int x8), (9, .int x9), (10, .int x10), (11, .int x11)] (by decide) rfl 181 rfl (by decide +kernel) ?_
  refine v_sub [1, 2, 3, 4, 5, 6, 0, 7, 8, 9] rfl ?_
  exact t_M_turning_181 G l C hr d hkr hkh108 σ72 a0 x1 x3 x4 x5 x6 r73 x8 x9 x10 hk_a0 hf
theorem t_M_turning_140 (G : ns_G) (l : Launch) {p : Program} {e : Env} {s : State} {m : MethodId} {args : Array Value} {below : List Frame} {meth : Method} {c : Code} (C : ns_Cx G p s m args meth c prog_11_method_53_code "NinthStepModel" 12) (hr : meth.sig.returnType = (some .int)) {r : Int32} {σ' : ns_St} (d : Nat) {kr : ns_St → Nat → Int32 → Int32 → Option (Int32 × ns_St)} (hkr : ∀ (σ : ns_St) (a0 : Nat) (x1 : Int32) (x2 : Int32) (r : Int32) (σ' : ns_St), kr σ a0 x1 x2 = some (r, σ') → ns_ok G l ⟨"NinthStepModel", "turning", "(IZ)I"⟩ prog_11_method_53_code 12 (some .int) (3 + d) (64 + 31 * d) 0 0 [.ref (G.1 + a0), .int x1, .int x2] ns_N σ (some (.int r)) ns_N σ') {kh108 : ns_St → Nat → Int32 → Int32 → Int32 → Int32 → Int32 → Int32 → Int32 → Int32 → Option (Int32 × ns_St)} (hkh108 : ∀ (σ : ns_St) (a0 : Nat) (x1 : Int32) (x3 : Int32) (x4 : Int32) (x5 : Int32) (x6 : Int32) (x7 : Int32) (x8 : Int32) (x9 : Int32), ns_kd a0 = 9 → kh108 σ a0 x1 x3 x4 x5 x6 x7 x8 x9 = some (r, σ') → VV G p l e { frames := 3 + (d + 1), cells := 0, slots := 0, locals := 64 + 31 * (d + 1) } s m args below meth c 12 0 0 (MQ below (ns_Qc G (some (.int r)) ns_N σ') args s 0 0 (ns_A G)) ns_N σ 108 [(0, .ref (G.1 + a0)), (1, .int x1), (3, .int x3), (4, .int x4), (5, .int x5), (6, .int x6), (7, .int x7), (8, .int x8), (9, .int x9)] []) (σ : ns_St) (a0 : Nat) (x1 : Int32) (x3 : Int32) (x4 : Int32) (x5 : Int32) (x6 : Int32) (x7 : Int32) (x8 : Int32) (x9 : Int32) (x10 : Int32) (hk_a0 : ns_kd a0 = 9) (hf : g_M_turning_140 kr kh108 σ a0 x1 x3 x4 x5 x6 x7 x8 x9 x10 = some (r, σ')) : VV G p l e { frames := 3 + (d + 1), cells := 0, slots := 0, locals := 64 + 31 * (d + 1) } s m args below meth c 12 0 0 (MQ below (ns_Qc G (some (.int r)) ns_N σ') args s 0 0 (ns_A G)) ns_N σ 140 [(0, .ref (G.1 + a0)), (1, .int x1), (3, .int x3), (4, .int x4), (5, .int x5), (6, .int x6), (7, .int x7), (8, .int x8), (9, .int x9), (10, .int x10)] [] := by
  unfold g_M_turning_140 at hf
  refine v_aload_n C 0 0 rfl 141 rfl (by decide +kernel) ?_
  refine v_iconst C (0) (0) (by decide) 142 rfl (by decide +kernel) ?_
  obtain ⟨r75, σ74, hcr75, hf⟩ := cl2_e hf
  refine v_cV C 9 rfl (ns_kd_lt hk_a0 (by decide)) hk_a0 (by decide) [.int (0 : Int32)] [] (c_M_stepped G l σ a0 (0 : Int32) hcr75) 208 1 tw_1246 tw_1243 tw_1245 ts_92 tw_10 hd_M_stepped rfl ⟨(by dsimp only; omega), (by dsimp only; omega)⟩ ⟨(Nat.le_of_ble_eq_true rfl), (Nat.le_of_ble_eq_true rfl)⟩ (Nat.le_of_ble_eq_true rfl) rfl 145 rfl (by decide +kernel) [.int r75] rfl ?_
  refine v_istore C 11 [(11, .int r75), (0, .ref (G.1 + a0)), (1, .int x1), (3, .int x3), (4, .int x4), (5, .int x5), (6, .int x6), (7, .int x7), (8, .int x8), (9, .int x9), (10, .int x10)] (by decide) rfl 147 rfl (by decide +kernel) ?_
  refine v_iload C 11 0 rfl 149 rfl (by decide +kernel) ?_
  refine v_if_eq C 164 152 rfl (by decide +kernel) (fun h76 => ?_) (fun h76 => ?_)
  · have hf := ite2_t hf h76
    refine v_sub [1, 2, 3, 4, 5, 6, 7, 8, 9, 10, 0] rfl ?_
    exact t_M_turning_164 G l C hr d hkr hkh108 σ74 a0 x1 x3 x4 x5 x6 x7 x8 x9 x10 r75 hk_a0 hf
  · have hf := ite2_f hf h76
    refine v_aload_n C 0 1 rfl 153 rfl (by decide +kernel) ?_
    refine v_aload_n C 0 1 rfl 154 rfl (by decide +kernel) ?_
    refine v_getI C 9 27 rfl nin_9 (ns_kd_lt hk_a0 (by decide)) hk_a0 (by decide) (by decide) rfl 191 tw_1002 rfl 157 rfl (by decide +kernel) ?_
    refine v_iconst C (4) (4) (by decide) 158 rfl (by decide +kernel) ?_
    obtain ⟨r78, σ77, hcr78, hf⟩ := cl2_e hf
    refine v_cV C 9 rfl (ns_kd_lt hk_a0 (by decide)) hk_a0 (by decide) [.int (σ74.1 a0 27), .int (4 : Int32)] [] (c_M_isThere G l σ74 a0 (σ74.1 a0 27) (4 : Int32) hcr78) 87 2 tw_1130 tw_1127 tw_1129 ts_79 tw_10 hd_M_isThere rfl ⟨(by dsimp only; omega), (by dsimp only; omega)⟩ ⟨(Nat.le_of_ble_eq_true rfl), (Nat.le_of_ble_eq_true rfl)⟩ (Nat.le_of_ble_eq_true rfl) rfl 161 rfl (by decide +kernel) [.int r78] rfl ?_
    refine v_if_ne C 181 164 rfl (by decide +kernel) (fun h79 => ?_) (fun h79 => ?_)
    · have hf := ite2_f hf h79
      refine v_sub [1, 2, 3, 4, 5, 6, 7, 8, 9, 10] rfl ?_
      exact t_M_turning_181 G l C hr d hkr hkh108 σ77 a0 x1 x3 x4 x5 x6 x7 x8 x9 x10 hk_a0 hf
    · have hf := ite2_t hf h79
      refine v_sub [1, 2, 3, 4, 5, 6, 7, 8, 9, 10, 0] rfl ?_
      exact t_M_turning_164 G l C hr d hkr hkh108 σ77 a0 x1 x3 x4 x5 x6 x7 x8 x9 x10 r75 hk_a0 hf
theorem t_M_turning_108 (G : ns_G) (l : Launch) {p : Program} {e : Env} {s : State} {m : MethodId} {args : Array Value} {below : List Frame} {meth : Method} {c : Code} (C : ns_Cx G p s m args meth c prog_11_method_53_code "NinthStepModel" 12) (hr : meth.sig.returnType = (some .int)) {r : Int32} {σ' : ns_St} (d : Nat) {kr : ns_St → Nat → Int32 → Int32 → Option (Int32 × ns_St)} (hkr : ∀ (σ : ns_St) (a0 : Nat) (x1 : Int32) (x2 : Int32) (r : Int32) (σ' : ns_St), kr σ a0 x1 x2 = some (r, σ') → ns_ok G l ⟨"NinthStepModel", "turning", "(IZ)I"⟩ prog_11_method_53_code 12 (some .int) (3 + d) (64 + 31 * d) 0 0 [.ref (G.1 + a0), .int x1, .int x2] ns_N σ (some (.int r)) ns_N σ')  : ∀ (f : Nat) (σ : ns_St) (a0 : Nat) (x1 : Int32) (x3 : Int32) (x4 : Int32) (x5 : Int32) (x6 : Int32) (x7 : Int32) (x8 : Int32) (x9 : Int32) (hk_a0 : ns_kd a0 = 9), g_M_turning_108 kr f σ a0 x1 x3 x4 x5 x6 x7 x8 x9 = some (r, σ') → VV G p l e { frames := 3 + (d + 1), cells := 0, slots := 0, locals := 64 + 31 * (d + 1) } s m args below meth c 12 0 0 (MQ below (ns_Qc G (some (.int r)) ns_N σ') args s 0 0 (ns_A G)) ns_N σ 108 [(0, .ref (G.1 + a0)), (1, .int x1), (3, .int x3), (4, .int x4), (5, .int x5), (6, .int x6), (7, .int x7), (8, .int x8), (9, .int x9)] [] := by
  intro f
  induction f with
  | zero =>
    intro σ a0 x1 x3 x4 x5 x6 x7 x8 x9 hk_a0 hf
    cases hf
  | succ f ih =>
    intro σ a0 x1 x3 x4 x5 x6 x7 x8 x9 hk_a0 hf
    rw [g_M_turning_108] at hf
    refine v_iload C 9 8 rfl 110 rfl (by decide +kernel) ?_
    refine v_iconst C (4) (4) (by decide) 111 rfl (by decide +kernel) ?_
    refine v_icmp_ge C 231 114 rfl (by decide +kernel) (fun h80 => ?_) (fun h80 => ?_)
    · have hf := ite2_t hf h80
      refine v_sub [0, 2, 3, 4, 5, 6] rfl ?_
      exact t_M_turning_231 G l C hr d hkr  σ a0 x3 x4 x5 x6 x7 hk_a0 hf
    · have hf := ite2_f hf h80
      refine v_aload_n C 0 0 rfl 115 rfl (by decide +kernel) ?_
      refine v_getI C 9 28 rfl nin_9 (ns_kd_lt hk_a0 (by decide)) hk_a0 (by decide) (by decide) rfl 194 tw_1003 rfl 118 rfl (by decide +kernel) ?_
      obtain ⟨z81, hz81, hf⟩ := bnd_e hf
      refine v_nmI hz81 ?_
      refine v_istore C 10 [(10, .int z81), (0, .ref (G.1 + a0)), (1, .int x1), (3, .int x3), (4, .int x4), (5, .int x5), (6, .int x6), (7, .int x7), (8, .int x8), (9, .int x9)] (by decide) rfl 120 rfl (by decide +kernel) ?_
      refine v_iload C 8 8 rfl 122 rfl (by decide +kernel) ?_
      refine v_if_ne C 140 125 rfl (by decide +kernel) (fun h82 => ?_) (fun h82 => ?_)
      · have hf := ite2_f hf h82
        refine v_sub [1, 2, 3, 4, 5, 6, 7, 8, 9, 0] rfl ?_
        exact t_M_turning_140 G l C hr d hkr ih σ a0 x1 x3 x4 x5 x6 x7 x8 x9 z81 hk_a0 hf
      · have hf := ite2_t hf h82
        refine v_iload_n C 3 3 rfl 126 rfl (by decide +kernel) ?_
        refine v_iload_n C 1 2 rfl 127 rfl (by decide +kernel) ?_
        refine v_icmp_eq C 140 130 rfl (by decide +kernel) (fun h83 => ?_) (fun h83 => ?_)
        · have hf := ite2_t hf h83
          refine v_sub [1, 2, 3, 4, 5, 6, 7, 8, 9, 0] rfl ?_
          exact t_M_turning_140 G l C hr d hkr ih σ a0 x1 x3 x4 x5 x6 x7 x8 x9 z81 hk_a0 hf
        · have hf := ite2_f hf h83
          refine v_aload_n C 0 1 rfl 131 rfl (by decide +kernel) ?_
          refine v_iload_n C 3 3 rfl 132 rfl (by decide +kernel) ?_
          refine v_bipush C (8) (8) (by decide) 134 rfl (by decide +kernel) ?_
          obtain ⟨r85, σ84, hcr85, hf⟩ := cl2_e hf
          refine v_cV C 9 rfl (ns_kd_lt hk_a0 (by decide)) hk_a0 (by decide) [.int x3, .int (8 : Int32)] [] (c_M_isThere G l σ a0 x3 (8 : Int32) hcr85) 87 2 tw_1130 tw_1127 tw_1129 ts_79 tw_10 hd_M_isThere rfl ⟨(by dsimp only; omega), (by dsimp only; omega)⟩ ⟨(Nat.le_of_ble_eq_true rfl), (Nat.le_of_ble_eq_true rfl)⟩ (Nat.le_of_ble_eq_true rfl) rfl 137 rfl (by decide +kernel) [.int r85] rfl ?_
          refine v_if_ne C 181 140 rfl (by decide +kernel) (fun h86 => ?_) (fun h86 => ?_)
          · have hf := ite2_f hf h86
            refine v_sub [1, 2, 3, 4, 5, 6, 7, 8, 9, 0] rfl ?_
            exact t_M_turning_181 G l C hr d hkr ih σ84 a0 x1 x3 x4 x5 x6 x7 x8 x9 z81 hk_a0 hf
          · have hf := ite2_t hf h86
            refine v_sub [1, 2, 3, 4, 5, 6, 7, 8, 9, 0] rfl ?_
            exact t_M_turning_140 G l C hr d hkr ih σ84 a0 x1 x3 x4 x5 x6 x7 x8 x9 z81 hk_a0 hf
theorem t_M_turning_76 (G : ns_G) (l : Launch) {p : Program} {e : Env} {s : State} {m : MethodId} {args : Array Value} {below : List Frame} {meth : Method} {c : Code} (C : ns_Cx G p s m args meth c prog_11_method_53_code "NinthStepModel" 12) (hr : meth.sig.returnType = (some .int)) {r : Int32} {σ' : ns_St} (d : Nat) {kr : ns_St → Nat → Int32 → Int32 → Option (Int32 × ns_St)} (hkr : ∀ (σ : ns_St) (a0 : Nat) (x1 : Int32) (x2 : Int32) (r : Int32) (σ' : ns_St), kr σ a0 x1 x2 = some (r, σ') → ns_ok G l ⟨"NinthStepModel", "turning", "(IZ)I"⟩ prog_11_method_53_code 12 (some .int) (3 + d) (64 + 31 * d) 0 0 [.ref (G.1 + a0), .int x1, .int x2] ns_N σ (some (.int r)) ns_N σ')  (σ : ns_St) (s0 : Int32) (s1 : Int32) (a0 : Nat) (x1 : Int32) (x2 : Int32) (x3 : Int32) (x4 : Int32) (x5 : Int32) (hk_a0 : ns_kd a0 = 9) (hf : g_M_turning_76 kr σ s0 s1 a0 x1 x2 x3 x4 x5 = some (r, σ')) : VV G p l e { frames := 3 + (d + 1), cells := 0, slots := 0, locals := 64 + 31 * (d + 1) } s m args below meth c 12 0 0 (MQ below (ns_Qc G (some (.int r)) ns_N σ') args s 0 0 (ns_A G)) ns_N σ 76 [(0, .ref (G.1 + a0)), (1, .int x1), (2, .int x2), (3, .int x3), (4, .int x4), (5, .int x5)] [.int s1, .int s0] := by
  unfold g_M_turning_76 at hf
  refine v_iadd C 77 rfl (by decide +kernel) ?_
  obtain ⟨z87, hz87, hf⟩ := bnd_e hf
  refine v_nmI hz87 ?_
  refine v_istore C 6 [(6, .int z87), (0, .ref (G.1 + a0)), (1, .int x1), (2, .int x2), (3, .int x3), (4, .int x4), (5, .int x5)] (by decide) rfl 79 rfl (by decide +kernel) ?_
  refine v_aload_n C 0 1 rfl 80 rfl (by decide +kernel) ?_
  obtain ⟨b88, hb88, hf⟩ := drf_e hf
  obtain ⟨hk_b88, hf⟩ := grd_e hf
  refine v_getR C 9 29 hb88 rfl nin_9 (ns_kd_lt hk_a0 (by decide)) hk_a0 (by decide) (by decide) rfl 53 tw_1004 rfl 83 rfl (by decide +kernel) ?_
  refine v_iload C 6 0 rfl 85 rfl (by decide +kernel) ?_
  obtain ⟨hi89, hf⟩ := grd_e hf
  refine v_iald C (ns_kd_lt hk_b88 (by decide)) hk_b88 hi89 86 rfl (by decide +kernel) ?_
  refine v_if_le C 97 89 rfl (by decide +kernel) (fun h90 => ?_) (fun h90 => ?_)
  · have hf := ite2_t hf h90
    refine v_sipush C (1000) (1000) (by decide) 100 rfl (by decide +kernel) ?_
    refine v_istore C 7 [(7, .int (1000 : Int32)), (6, .int z87), (0, .ref (G.1 + a0)), (1, .int x1), (2, .int x2), (3, .int x3), (4, .int x4), (5, .int x5)] (by decide) rfl 102 rfl (by decide +kernel) ?_
    refine v_iload_n C 2 4 rfl 103 rfl (by decide +kernel) ?_
    refine v_istore C 8 [(8, .int x2), (7, .int (1000 : Int32)), (6, .int z87), (0, .ref (G.1 + a0)), (1, .int x1), (2, .int x2), (3, .int x3), (4, .int x4), (5, .int x5)] (by decide) rfl 105 rfl (by decide +kernel) ?_
    refine v_iconst C (0) (0) (by decide) 106 rfl (by decide +kernel) ?_
    refine v_istore C 9 [(9, .int (0 : Int32)), (8, .int x2), (7, .int (1000 : Int32)), (6, .int z87), (0, .ref (G.1 + a0)), (1, .int x1), (2, .int x2), (3, .int x3), (4, .int x4), (5, .int x5)] (by decide) rfl 108 rfl (by decide +kernel) ?_
    refine v_sub [4, 5, 7, 8, 9, 3, 2, 1, 0] rfl ?_
    exact t_M_turning_108 G l C hr d hkr  ns_F σ a0 x1 x3 x4 x5 z87 (1000 : Int32) x2 (0 : Int32) hk_a0 hf
  · have hf := ite2_f hf h90
    refine v_aload_n C 0 1 rfl 90 rfl (by decide +kernel) ?_
    obtain ⟨b91, hb91, hf⟩ := drf_e hf
    obtain ⟨hk_b91, hf⟩ := grd_e hf
    refine v_getR C 9 29 hb91 rfl nin_9 (ns_kd_lt hk_a0 (by decide)) hk_a0 (by decide) (by decide) rfl 53 tw_1004 rfl 93 rfl (by decide +kernel) ?_
    refine v_iload C 6 0 rfl 95 rfl (by decide +kernel) ?_
    obtain ⟨hi92, hf⟩ := grd_e hf
    refine v_iald C (ns_kd_lt hk_b91 (by decide)) hk_b91 hi92 96 rfl (by decide +kernel) ?_
    obtain ⟨rfl, rfl⟩ := ret_e hf
    exact v_iret C hr (by decide +kernel)
theorem c_M_turning (G : ns_G) (l : Launch) : ∀ (d : Nat) (σ : ns_St) (a0 : Nat) (x1 : Int32) (x2 : Int32) {r : Int32} {σ' : ns_St} (hf : g_M_turning d σ a0 x1 x2 = some (r, σ')), ns_ok G l ⟨"NinthStepModel", "turning", "(IZ)I"⟩ prog_11_method_53_code 12 (some .int) (3 + d) (64 + 31 * d) 0 0 [.ref (G.1 + a0), .int x1, .int x2] ns_N σ (some (.int r)) ns_N σ' := by
  intro d
  induction d with
  | zero =>
    intro σ a0 x1 x2 r σ' hf
    cases hf
  | succ d ih =>
    intro σ a0 x1 x2 r σ' hf
    rw [g_M_turning] at hf
    have hkr : ∀ (σ : ns_St) (a0 : Nat) (x1 : Int32) (x2 : Int32) (r : Int32) (σ' : ns_St), g_M_turning d σ a0 x1 x2 = some (r, σ') → ns_ok G l ⟨"NinthStepModel", "turning", "(IZ)I"⟩ prog_11_method_53_code 12 (some .int) (3 + d) (64 + 31 * d) 0 0 [.ref (G.1 + a0), .int x1, .int x2] ns_N σ (some (.int r)) ns_N σ' := fun σ a0 x1 x2 r σ' h => ih σ a0 x1 x2 h
    refine v_open (by decide) (Nat.le_of_ble_eq_true rfl) rfl ?_
    intro p e s m below meth c C hr _
    have C : ns_Cx G p s m _ meth c prog_11_method_53_code "NinthStepModel" 12 := C
    unfold gr_M_turning at hf
    obtain ⟨hk_a0, hf⟩ := grd_e hf
    refine v_aload_n C 0 0 rfl 1 rfl (by decide +kernel) ?_
    refine v_getI C 9 27 rfl nin_9 (ns_kd_lt hk_a0 (by decide)) hk_a0 (by decide) (by decide) rfl 191 tw_1002 rfl 4 rfl (by decide +kernel) ?_
    obtain ⟨z93, hz93, hf⟩ := bnd_e hf
    refine v_nmI hz93 ?_
    refine v_istore_n C 3 [(3, .int z93), (0, .ref (G.1 + a0)), (1, .int x1), (2, .int x2)] (by decide) rfl 5 rfl (by decide +kernel) ?_
    refine v_aload_n C 0 1 rfl 6 rfl (by decide +kernel) ?_
    refine v_getI C 9 28 rfl nin_9 (ns_kd_lt hk_a0 (by decide)) hk_a0 (by decide) (by decide) rfl 194 tw_1003 rfl 9 rfl (by decide +kernel) ?_
    obtain ⟨z94, hz94, hf⟩ := bnd_e hf
    refine v_nmI hz94 ?_
    refine v_istore C 4 [(4, .int z94), (3, .int z93), (0, .ref (G.1 + a0)), (1, .int x1), (2, .int x2)] (by decide) rfl 11 rfl (by decide +kernel) ?_
    refine v_aload_n C 0 2 rfl 12 rfl (by decide +kernel) ?_
    refine v_getI C 9 26 rfl nin_9 (ns_kd_lt hk_a0 (by decide)) hk_a0 (by decide) (by decide) rfl 188 tw_1001 rfl 15 rfl (by decide +kernel) ?_
    obtain ⟨z95, hz95, hf⟩ := bnd_e hf
    refine v_nmI hz95 ?_
    refine v_istore C 5 [(5, .int z95), (4, .int z94), (3, .int z93), (0, .ref (G.1 + a0)), (1, .int x1), (2, .int x2)] (by decide) rfl 17 rfl (by decide +kernel) ?_
    refine v_iload_n C 3 2 rfl 18 rfl (by decide +kernel) ?_
    refine v_aload_n C 0 3 rfl 19 rfl (by decide +kernel) ?_
    refine v_getI C 9 3 rfl nin_9 (ns_kd_lt hk_a0 (by decide)) hk_a0 (by decide) (by decide) rfl 59 tw_978 rfl 22 rfl (by decide +kernel) ?_
    refine v_icmp_ne C 52 25 rfl (by decide +kernel) (fun h96 => ?_) (fun h96 => ?_)
    · have hf := ite2_f hf h96
      refine v_sipush C (130) (130) (by decide) 55 rfl (by decide +kernel) ?_
      refine v_iload_n C 3 2 rfl 56 rfl (by decide +kernel) ?_
      refine v_imul C 57 rfl (by decide +kernel) ?_
      refine v_iconst C (2) (2) (by decide) 58 rfl (by decide +kernel) ?_
      refine v_iload C 4 1 rfl 60 rfl (by decide +kernel) ?_
      refine v_iload C 5 0 rfl 62 rfl (by decide +kernel) ?_
      obtain ⟨r98, σ97, hcr98, hf⟩ := cl2_e hf
      refine v_cS C [.int z94, .int z95] [.int (2 : Int32), .int ((130 : Int32) * z93)] (c_Math_min G l σ z94 z95 hcr98) 200 2 tw_663 tw_1251 tw_662 tw_18 hd_Math_min rfl ⟨(by dsimp only; omega), (by dsimp only; omega)⟩ ⟨(Nat.le_of_ble_eq_true rfl), (Nat.le_of_ble_eq_true rfl)⟩ (Nat.le_of_ble_eq_true rfl) rfl 65 rfl (by decide +kernel) [.int r98, .int (2 : Int32), .int ((130 : Int32) * z93)] rfl ?_
      refine v_imul C 66 rfl (by decide +kernel) ?_
      refine v_iadd C 67 rfl (by decide +kernel) ?_
      refine v_iload_n C 2 5 rfl 68 rfl (by decide +kernel) ?_
      refine v_if_eq C 75 71 rfl (by decide +kernel) (fun h99 => ?_) (fun h99 => ?_)
      · have hf := ite2_t hf h99
        refine v_iconst C (0) (0) (by decide) 76 rfl (by decide +kernel) ?_
        refine v_sub [3, 4, 5, 2, 1, 0] rfl ?_
        exact t_M_turning_76 G l C hr d hkr  σ97 (((130 : Int32) * z93) + ((2 : Int32) * r98)) (0 : Int32) a0 x1 x2 z93 z94 z95 hk_a0 hf
      · have hf := ite2_f hf h99
        refine v_iconst C (1) (1) (by decide) 72 rfl (by decide +kernel) ?_
        refine v_goto C 76 (by decide +kernel) ?_
        refine v_sub [3, 4, 5, 2, 1, 0] rfl ?_
        exact t_M_turning_76 G l C hr d hkr  σ97 (((130 : Int32) * z93) + ((2 : Int32) * r98)) (1 : Int32) a0 x1 x2 z93 z94 z95 hk_a0 hf
    · have hf := ite2_t hf h96
      refine v_iload_n C 2 5 rfl 26 rfl (by decide +kernel) ?_
      refine v_if_ne C 44 29 rfl (by decide +kernel) (fun h100 => ?_) (fun h100 => ?_)
      · have hf := ite2_f hf h100
        refine v_iconst C (1) (1) (by decide) 45 rfl (by decide +kernel) ?_
        refine v_goto C 51 (by decide +kernel) ?_
        obtain ⟨rfl, rfl⟩ := ret_e hf
        exact v_iret C hr (by decide +kernel)
      · have hf := ite2_t hf h100
        refine v_iload_n C 3 2 rfl 30 rfl (by decide +kernel) ?_
        refine v_iload_n C 1 4 rfl 31 rfl (by decide +kernel) ?_
        refine v_icmp_eq C 44 34 rfl (by decide +kernel) (fun h101 => ?_) (fun h101 => ?_)
        · have hf := ite2_t hf h101
          refine v_iconst C (1) (1) (by decide) 45 rfl (by decide +kernel) ?_
          refine v_goto C 51 (by decide +kernel) ?_
          obtain ⟨rfl, rfl⟩ := ret_e hf
          exact v_iret C hr (by decide +kernel)
        · have hf := ite2_f hf h101
          refine v_aload_n C 0 3 rfl 35 rfl (by decide +kernel) ?_
          refine v_iload_n C 3 2 rfl 36 rfl (by decide +kernel) ?_
          refine v_bipush C (8) (8) (by decide) 38 rfl (by decide +kernel) ?_
          obtain ⟨r103, σ102, hcr103, hf⟩ := cl2_e hf
          refine v_cV C 9 rfl (ns_kd_lt hk_a0 (by decide)) hk_a0 (by decide) [.int z93, .int (8 : Int32)] [] (c_M_isThere G l σ a0 z93 (8 : Int32) hcr103) 87 2 tw_1130 tw_1127 tw_1129 ts_79 tw_10 hd_M_isThere rfl ⟨(by dsimp only; omega), (by dsimp only; omega)⟩ ⟨(Nat.le_of_ble_eq_true rfl), (Nat.le_of_ble_eq_true rfl)⟩ (Nat.le_of_ble_eq_true rfl) rfl 41 rfl (by decide +kernel) [.int r103] rfl ?_
          refine v_if_ne C 48 44 rfl (by decide +kernel) (fun h104 => ?_) (fun h104 => ?_)
          · have hf := ite2_f hf h104
            refine v_sipush C (1000) (1000) (by decide) 51 rfl (by decide +kernel) ?_
            obtain ⟨rfl, rfl⟩ := ret_e hf
            exact v_iret C hr (by decide +kernel)
          · have hf := ite2_t hf h104
            refine v_iconst C (1) (1) (by decide) 45 rfl (by decide +kernel) ?_
            refine v_goto C 51 (by decide +kernel) ?_
            obtain ⟨rfl, rfl⟩ := ret_e hf
            exact v_iret C hr (by decide +kernel)
def g_M_turnsOf_213 (kh78 : ns_St → Nat → Int32 → Int32 → Int32 → Int32 → Option (Int32 × ns_St)) (kh108 : ns_St → Nat → Int32 → Int32 → Int32 → Int32 → Int32 → Int32 → Int32 → Int32 → Option (Int32 × ns_St)) (σ : ns_St) (a0 : Nat) (x1 : Int32) (x2 : Int32) (x3 : Int32) (x4 : Int32) (x5 : Int32) (x6 : Int32) (x7 : Int32) (x8 : Int32) (x9 : Int32) : Option (Int32 × ns_St) := bnd (ns_pI σ a0 27 x5) fun σ59 => bnd (ns_pI σ59 a0 26 x6) fun σ60 => bnd (ns_pI σ60 a0 28 (x9 + (1 : Int32))) fun σ61 => cl2 (g_M_stopsHere σ61 a0) fun r63 σ62 => ite2 (r63 = 0) (bnd (x8 + 1) fun z69 => kh108 σ62 a0 x1 x2 x3 x4 x5 x6 x7 z69) (cl2 (g_M_isThere σ62 a0 x5 (4 : Int32)) fun r66 σ65 => ite2 (r66 = 0) (bnd (x8 + 1) fun z68 => kh108 σ65 a0 x1 x2 x3 x4 x5 x6 (1 : Int32) z68) (kh78 σ65 a0 x1 x2 x3 x4))
def g_M_turnsOf_171 (kh78 : ns_St → Nat → Int32 → Int32 → Int32 → Int32 → Option (Int32 × ns_St)) (kh108 : ns_St → Nat → Int32 → Int32 → Int32 → Int32 → Int32 → Int32 → Int32 → Int32 → Option (Int32 × ns_St)) (σ : ns_St) (a0 : Nat) (x1 : Int32) (x2 : Int32) (x3 : Int32) (x4 : Int32) (x5 : Int32) (x6 : Int32) (x7 : Int32) (x8 : Int32) (x9 : Int32) (x10 : Int32) : Option (Int32 × ns_St) := drf (σ.2.2 a0 8) fun b70 => grd (ns_kd b70 = 10) <| grd (ns_in x1 (ns_ln b70)) <| cl2 (g_M_turning ns_D σ a0 (σ.1 b70 (ns_ix x1)) x10) fun r73 σ72 => ite2 ((x8 + r73) = (x3 + (1 : Int32))) (drf (σ72.2.2 a0 30) fun b75 => grd (ns_kd b75 = 10) <| grd (ns_in x5 (ns_ln b75)) <| bnd (ns_pI σ72 b75 (ns_ix x5) x8) fun σ77 => bnd (x3 - x8) fun z78 => kh78 σ77 a0 x1 x2 z78 x10) (g_M_turnsOf_213 kh78 kh108 σ72 a0 x1 x2 x3 x4 x5 x6 x7 x8 x9)
def g_M_turnsOf_147 (kh78 : ns_St → Nat → Int32 → Int32 → Int32 → Int32 → Option (Int32 × ns_St)) (kh108 : ns_St → Nat → Int32 → Int32 → Int32 → Int32 → Int32 → Int32 → Int32 → Int32 → Option (Int32 × ns_St)) (σ : ns_St) (a0 : Nat) (x1 : Int32) (x2 : Int32) (x3 : Int32) (x4 : Int32) (x5 : Int32) (x6 : Int32) (x7 : Int32) (x8 : Int32) (x9 : Int32) : Option (Int32 × ns_St) := cl2 (g_M_stepped σ a0 (0 : Int32)) fun r80 σ79 => ite2 (r80 = 0) (g_M_turnsOf_171 kh78 kh108 σ79 a0 x1 x2 x3 x4 x5 x6 x7 x8 x9 r80) (cl2 (g_M_isThere σ79 a0 (σ79.1 a0 27) (4 : Int32)) fun r83 σ82 => ite2 (r83 = 0) (g_M_turnsOf_171 kh78 kh108 σ82 a0 x1 x2 x3 x4 x5 x6 x7 x8 x9 r80) (g_M_turnsOf_213 kh78 kh108 σ82 a0 x1 x2 x3 x4 x5 x6 x7 x8 x9))
def g_M_turnsOf_108 (kh78 : ns_St → Nat → Int32 → Int32 → Int32 → Int32 → Option (Int32 × ns_St)) : Nat → ns_St → Nat → Int32 → Int32 → Int32 → Int32 → Int32 → Int32 → Int32 → Int32 → Option (Int32 × ns_St)
  | 0, _, _, _, _, _, _, _, _, _, _ => none
  | f + 1, σ, a0, x1, x2, x3, x4, x5, x6, x7, x8 => ite2 ((4 : Int32) ≤ x8) (kh78 σ a0 x1 x2 x3 x4) (bnd (σ.1 a0 28) fun z86 => ite2 (x7 = 0) (drf (σ.2.2 a0 8) fun b88 => grd (ns_kd b88 = 10) <| grd (ns_in x1 (ns_ln b88)) <| ite2 (x5 = (σ.1 b88 (ns_ix x1))) (g_M_turnsOf_147 kh78 (g_M_turnsOf_108 kh78 f) σ a0 x1 x2 x3 x4 x5 x6 x7 x8 z86) (cl2 (g_M_isThere σ a0 x5 (8 : Int32)) fun r92 σ91 => ite2 (r92 = 0) (g_M_turnsOf_147 kh78 (g_M_turnsOf_108 kh78 f) σ91 a0 x1 x2 x3 x4 x5 x6 x7 x8 z86) (g_M_turnsOf_213 kh78 (g_M_turnsOf_108 kh78 f) σ91 a0 x1 x2 x3 x4 x5 x6 x7 x8 z86))) (g_M_turnsOf_147 kh78 (g_M_turnsOf_108 kh78 f) σ a0 x1 x2 x3 x4 x5 x6 x7 x8 z86))
def g_M_turnsOf_78  : Nat → ns_St → Nat → Int32 → Int32 → Int32 → Int32 → Option (Int32 × ns_St)
  | 0, _, _, _, _, _, _ => none
  | f + 1, σ, a0, x1, x2, x3, x4 => ite2 ((σ.1 a0 3) ≤ (σ.1 a0 27)) (some (x2, σ)) (bnd (σ.1 a0 27) fun z95 => bnd (σ.1 a0 26) fun z96 => g_M_turnsOf_108 (g_M_turnsOf_78 f) ns_F σ a0 x1 x2 x3 x4 z95 z96 x4 (0 : Int32))
def g_M_turnsOf_26  : Nat → ns_St → Nat → Int32 → Int32 → Option (Int32 × ns_St)
  | 0, _, _, _, _ => none
  | f + 1, σ, a0, x1, x2 => ite2 ((61 : Int32) ≤ x2) (cl2 (g_M_begins σ a0 x1) fun r99 σ98 => drf (σ98.2.2 a0 8) fun b100 => grd (ns_kd b100 = 10) <| grd (ns_in x1 (ns_ln b100)) <| cl2 (g_M_turning ns_D σ98 a0 (σ98.1 b100 (ns_ix x1)) (0 : Int32)) fun r103 σ102 => bnd (r103 - (1 : Int32)) fun z104 => ite2 (z104 ≤ (900 : Int32)) (g_M_turnsOf_78 ns_F σ102 a0 x1 z104 z104 (0 : Int32)) (some ((-1 : Int32), σ102))) (drf (σ.2.2 a0 30) fun b106 => grd (ns_kd b106 = 10) <| grd (ns_in x2 (ns_ln b106)) <| bnd (ns_pI σ b106 (ns_ix x2) (0 : Int32)) fun σ108 => bnd (x2 + 1) fun z109 => (g_M_turnsOf_26 f) σ108 a0 x1 z109)
def g_M_turnsOf_2  : Nat → ns_St → Nat → Int32 → Int32 → Option (Int32 × ns_St)
  | 0, _, _, _, _ => none
  | f + 1, σ, a0, x1, x2 => drf (σ.2.2 a0 29) fun b110 => grd (ns_kd b110 = 10) <| bnd (Int32.ofNat (ns_ln b110)) fun z111 => ite2 (z111 ≤ x2) (g_M_turnsOf_26 ns_F σ a0 x1 (0 : Int32)) (drf (σ.2.2 a0 29) fun b113 => grd (ns_kd b113 = 10) <| grd (ns_in x2 (ns_ln b113)) <| bnd (ns_pI σ b113 (ns_ix x2) (0 : Int32)) fun σ115 => bnd (x2 + 1) fun z116 => (g_M_turnsOf_2 f) σ115 a0 x1 z116)
def g_M_turnsOf (σ : ns_St) (a0 : Nat) (x1 : Int32) : Option (Int32 × ns_St) := grd (ns_kd a0 = 9) <| g_M_turnsOf_2 ns_F σ a0 x1 (0 : Int32)
theorem t_M_turnsOf_213 (G : ns_G) (l : Launch) {p : Program} {e : Env} {s : State} {m : MethodId} {args : Array Value} {below : List Frame} {meth : Method} {c : Code} (C : ns_Cx G p s m args meth c prog_11_method_54_code "NinthStepModel" 11) (hr : meth.sig.returnType = (some .int)) {r : Int32} {σ' : ns_St} {kh78 : ns_St → Nat → Int32 → Int32 → Int32 → Int32 → Option (Int32 × ns_St)} {kh108 : ns_St → Nat → Int32 → Int32 → Int32 → Int32 → Int32 → Int32 → Int32 → Int32 → Option (Int32 × ns_St)} (hkh78 : ∀ (σ : ns_St) (a0 : Nat) (x1 : Int32) (x2 : Int32) (x3 : Int32) (x4 : Int32), ns_kd a0 = 9 → kh78 σ a0 x1 x2 x3 x4 = some (r, σ') → VV G p l e { frames := 74, cells := 0, slots := 0, locals := 2265 } s m args below meth c 11 0 0 (MQ below (ns_Qc G (some (.int r)) ns_N σ') args s 0 0 (ns_A G)) ns_N σ 78 [(0, .ref (G.1 + a0)), (1, .int x1), (2, .int x2), (3, .int x3), (4, .int x4)] []) (hkh108 : ∀ (σ : ns_St) (a0 : Nat) (x1 : Int32) (x2 : Int32) (x3 : Int32) (x4 : Int32) (x5 : Int32) (x6 : Int32) (x7 : Int32) (x8 : Int32), ns_kd a0 = 9 → kh108 σ a0 x1 x2 x3 x4 x5 x6 x7 x8 = some (r, σ') → VV G p l e { frames := 74, cells := 0, slots := 0, locals := 2265 } s m args below meth c 11 0 0 (MQ below (ns_Qc G (some (.int r)) ns_N σ') args s 0 0 (ns_A G)) ns_N σ 108 [(0, .ref (G.1 + a0)), (1, .int x1), (2, .int x2), (3, .int x3), (4, .int x4), (5, .int x5), (6, .int x6), (7, .int x7), (8, .int x8)] []) (σ : ns_St) (a0 : Nat) (x1 : Int32) (x2 : Int32) (x3 : Int32) (x4 : Int32) (x5 : Int32) (x6 : Int32) (x7 : Int32) (x8 : Int32) (x9 : Int32) (hk_a0 : ns_kd a0 = 9) (hf : g_M_turnsOf_213 kh78 kh108 σ a0 x1 x2 x3 x4 x5 x6 x7 x8 x9 = some (r, σ')) : VV G p l e { frames := 74, cells := 0, slots := 0, locals := 2265 } s m args below meth c 11 0 0 (MQ below (ns_Qc G (some (.int r)) ns_N σ') args s 0 0 (ns_A G)) ns_N σ 213 [(0, .ref (G.1 + a0)), (1, .int x1), (2, .int x2), (3, .int x3), (4, .int x4), (5, .int x5), (6, .int x6), (7, .int x7), (8, .int x8), (9, .int x9)] [] := by
  unfold g_M_turnsOf_213 at hf
  refine v_aload_n C 0 0 rfl 214 rfl (by decide +kernel) ?_
  refine v_iload C 5 5 rfl 216 rfl (by decide +kernel) ?_
  obtain ⟨σ59, hσ59, hf⟩ := bnd_e hf
  refine v_putI C 9 27 hσ59 rfl nin_9 ny_9 nty_9 nnm_9 (ns_kd_lt hk_a0 (by decide)) hk_a0 (by decide) (by decide) rfl rfl rfl rfl 191 tw_1002 rfl 219 rfl (by decide +kernel) ?_
  refine v_aload_n C 0 0 rfl 220 rfl (by decide +kernel) ?_
  refine v_iload C 6 6 rfl 222 rfl (by decide +kernel) ?_
  obtain ⟨σ60, hσ60, hf⟩ := bnd_e hf
  refine v_putI C 9 26 hσ60 rfl nin_9 ny_9 nty_9 nnm_9 (ns_kd_lt hk_a0 (by decide)) hk_a0 (by decide) (by decide) rfl rfl rfl rfl 188 tw_1001 rfl 225 rfl (by decide +kernel) ?_
  refine v_aload_n C 0 0 rfl 226 rfl (by decide +kernel) ?_
  refine v_iload C 9 9 rfl 228 rfl (by decide +kernel) ?_
  refine v_iconst C (1) (1) (by decide) 229 rfl (by decide +kernel) ?_
  refine v_iadd C 230 rfl (by decide +kernel) ?_
  obtain ⟨σ61, hσ61, hf⟩ := bnd_e hf
  refine v_putI C 9 28 hσ61 rfl nin_9 ny_9 nty_9 nnm_9 (ns_kd_lt hk_a0 (by decide)) hk_a0 (by decide) (by decide) rfl rfl rfl rfl 194 tw_1003 rfl 233 rfl (by decide +kernel) ?_
  refine v_aload_n C 0 0 rfl 234 rfl (by decide +kernel) ?_
  obtain ⟨r63, σ62, hcr63, hf⟩ := cl2_e hf
  refine v_cV C 9 rfl (ns_kd_lt hk_a0 (by decide)) hk_a0 (by decide) [] [] (c_M_stopsHere G l σ61 a0 hcr63) 197 0 tw_1250 tw_1247 tw_1249 ts_93 tw_10 hd_M_stopsHere rfl ⟨(Nat.le_of_ble_eq_true rfl), (Nat.le_of_ble_eq_true rfl)⟩ ⟨(Nat.le_of_ble_eq_true rfl), (Nat.le_of_ble_eq_true rfl)⟩ (Nat.le_of_ble_eq_true rfl) rfl 237 rfl (by decide +kernel) [.int r63] rfl ?_
  refine v_if_ne C 243 240 rfl (by decide +kernel) (fun h64 => ?_) (fun h64 => ?_)
  · have hf := ite2_f hf h64
    refine v_iconst C (1) (1) (by decide) 244 rfl (by decide +kernel) ?_
    refine v_istore C 7 [(7, .int (1 : Int32)), (0, .ref (G.1 + a0)), (1, .int x1), (2, .int x2), (3, .int x3), (4, .int x4), (5, .int x5), (6, .int x6), (8, .int x8), (9, .int x9)] (by decide) rfl 246 rfl (by decide +kernel) ?_
    refine v_aload_n C 0 1 rfl 247 rfl (by decide +kernel) ?_
    refine v_iload C 5 6 rfl 249 rfl (by decide +kernel) ?_
    refine v_iconst C (4) (4) (by decide) 250 rfl (by decide +kernel) ?_
    obtain ⟨r66, σ65, hcr66, hf⟩ := cl2_e hf
    refine v_cV C 9 rfl (ns_kd_lt hk_a0 (by decide)) hk_a0 (by decide) [.int x5, .int (4 : Int32)] [] (c_M_isThere G l σ62 a0 x5 (4 : Int32) hcr66) 87 2 tw_1130 tw_1127 tw_1129 ts_79 tw_10 hd_M_isThere rfl ⟨(Nat.le_of_ble_eq_true rfl), (Nat.le_of_ble_eq_true rfl)⟩ ⟨(Nat.le_of_ble_eq_true rfl), (Nat.le_of_ble_eq_true rfl)⟩ (Nat.le_of_ble_eq_true rfl) rfl 253 rfl (by decide +kernel) [.int r66] rfl ?_
    refine v_if_eq C 259 256 rfl (by decide +kernel) (fun h67 => ?_) (fun h67 => ?_)
    · have hf := ite2_t hf h67
      obtain ⟨z68, hz68, hf⟩ := bnd_e hf
      refine v_iinc C 8 (1) 8 z68 rfl (by rw [hz68]; rfl) [(8, .int z68), (7, .int (1 : Int32)), (0, .ref (G.1 + a0)), (1, .int x1), (2, .int x2), (3, .int x3), (4, .int x4), (5, .int x5), (6, .int x6), (9, .int x9)] (by decide) rfl 262 rfl (by decide +kernel) ?_
      refine v_goto C 108 (by decide +kernel) ?_
      refine v_sub [2, 3, 4, 5, 6, 7, 8, 1, 0] rfl ?_
      exact hkh108 σ65 a0 x1 x2 x3 x4 x5 x6 (1 : Int32) z68 hk_a0 hf
    · have hf := ite2_f hf h67
      refine v_goto C 265 (by decide +kernel) ?_
      refine v_goto C 78 (by decide +kernel) ?_
      refine v_sub [1, 2, 3, 4, 5] rfl ?_
      exact hkh78 σ65 a0 x1 x2 x3 x4 hk_a0 hf
  · have hf := ite2_t hf h64
    refine v_goto C 259 (by decide +kernel) ?_
    obtain ⟨z69, hz69, hf⟩ := bnd_e hf
    refine v_iinc C 8 (1) 8 z69 rfl (by rw [hz69]; rfl) [(8, .int z69), (0, .ref (G.1 + a0)), (1, .int x1), (2, .int x2), (3, .int x3), (4, .int x4), (5, .int x5), (6, .int x6), (7, .int x7), (9, .int x9)] (by decide) rfl 262 rfl (by decide +kernel) ?_
    refine v_goto C 108 (by decide +kernel) ?_
    refine v_sub [1, 2, 3, 4, 5, 6, 7, 8, 0] rfl ?_
    exact hkh108 σ62 a0 x1 x2 x3 x4 x5 x6 x7 z69 hk_a0 hf
theorem t_M_turnsOf_171 (G : ns_G) (l : Launch) {p : Program} {e : Env} {s : State} {m : MethodId} {args : Array Value} {below : List Frame} {meth : Method} {c : Code} (C : ns_Cx G p s m args meth c prog_11_method_54_code "NinthStepModel" 11) (hr : meth.sig.returnType = (some .int)) {r : Int32} {σ' : ns_St} {kh78 : ns_St → Nat → Int32 → Int32 → Int32 → Int32 → Option (Int32 × ns_St)} {kh108 : ns_St → Nat → Int32 → Int32 → Int32 → Int32 → Int32 → Int32 → Int32 → Int32 → Option (Int32 × ns_St)} (hkh78 : ∀ (σ : ns_St) (a0 : Nat) (x1 : Int32) (x2 : Int32) (x3 : Int32) (x4 : Int32), ns_kd a0 = 9 → kh78 σ a0 x1 x2 x3 x4 = some (r, σ') → VV G p l e { frames := 74, cells := 0, slots := 0, locals := 2265 } s m args below meth c 11 0 0 (MQ below (ns_Qc G (some (.int r)) ns_N σ') args s 0 0 (ns_A G)) ns_N σ 78 [(0, .ref (G.1 + a0)), (1, .int x1), (2, .int x2), (3, .int x3), (4, .int x4)] []) (hkh108 : ∀ (σ : ns_St) (a0 : Nat) (x1 : Int32) (x2 : Int32) (x3 : Int32) (x4 : Int32) (x5 : Int32) (x6 : Int32) (x7 : Int32) (x8 : Int32), ns_kd a0 = 9 → kh108 σ a0 x1 x2 x3 x4 x5 x6 x7 x8 = some (r, σ') → VV G p l e { frames := 74, cells := 0, slots := 0, locals := 2265 } s m args below meth c 11 0 0 (MQ below (ns_Qc G (some (.int r)) ns_N σ') args s 0 0 (ns_A G)) ns_N σ 108 [(0, .ref (G.1 + a0)), (1, .int x1), (2, .int x2), (3, .int x3), (4, .int x4), (5, .int x5), (6, .int x6), (7, .int x7), (8, .int x8)] []) (σ : ns_St) (a0 : Nat) (x1 : Int32) (x2 : Int32) (x3 : Int32) (x4 : Int32) (x5 : Int32) (x6 : Int32) (x7 : Int32) (x8 : Int32) (x9 : Int32) (x10 : Int32) (hk_a0 : ns_kd a0 = 9) (hf : g_M_turnsOf_171 kh78 kh108 σ a0 x1 x2 x3 x4 x5 x6 x7 x8 x9 x10 = some (r, σ')) : VV G p l e { frames := 74, cells := 0, slots := 0, locals := 2265 } s m args below meth c 11 0 0 (MQ below (ns_Qc G (some (.int r)) ns_N σ') args s 0 0 (ns_A G)) ns_N σ 171 [(0, .ref (G.1 + a0)), (1, .int x1), (2, .int x2), (3, .int x3), (4, .int x4), (5, .int x5), (6, .int x6), (7, .int x7), (8, .int x8), (9, .int x9), (10, .int x10)] [] := by
  unfold g_M_turnsOf_171 at hf
  refine v_iload C 8 8 rfl 173 rfl (by decide +kernel) ?_
  refine v_aload_n C 0 0 rfl 174 rfl (by decide +kernel) ?_
  refine v_aload_n C 0 0 rfl 175 rfl (by decide +kernel) ?_
  obtain ⟨b70, hb70, hf⟩ := drf_e hf
  obtain ⟨hk_b70, hf⟩ := grd_e hf
  refine v_getR C 9 8 hb70 rfl nin_9 (ns_kd_lt hk_a0 (by decide)) hk_a0 (by decide) (by decide) rfl 29 tw_983 rfl 178 rfl (by decide +kernel) ?_
  refine v_iload_n C 1 1 rfl 179 rfl (by decide +kernel) ?_
  obtain ⟨hi71, hf⟩ := grd_e hf
  refine v_iald C (ns_kd_lt hk_b70 (by decide)) hk_b70 hi71 180 rfl (by decide +kernel) ?_
  refine v_iload C 10 10 rfl 182 rfl (by decide +kernel) ?_
  obtain ⟨r73, σ72, hcr73, hf⟩ := cl2_e hf
  refine v_cV C 9 rfl (ns_kd_lt hk_a0 (by decide)) hk_a0 (by decide) [.int (σ.1 b70 (ns_ix x1)), .int x10] [.int x8] (c_M_turning G l ns_D σ a0 (σ.1 b70 (ns_ix x1)) x10 hcr73) 224 2 tw_1299 tw_1296 tw_1298 ts_99 tw_10 hd_M_turning rfl ⟨(Nat.le_of_ble_eq_true rfl), (Nat.le_of_ble_eq_true rfl)⟩ ⟨(Nat.le_of_ble_eq_true rfl), (Nat.le_of_ble_eq_true rfl)⟩ (Nat.le_of_ble_eq_true rfl) rfl 185 rfl (by decide +kernel) [.int r73, .int x8] rfl ?_
  refine v_iadd C 186 rfl (by decide +kernel) ?_
  refine v_iload_n C 3 3 rfl 187 rfl (by decide +kernel) ?_
  refine v_iconst C (1) (1) (by decide) 188 rfl (by decide +kernel) ?_
  refine v_iadd C 189 rfl (by decide +kernel) ?_
  refine v_icmp_ne C 213 192 rfl (by decide +kernel) (fun h74 => ?_) (fun h74 => ?_)
  · have hf := ite2_f hf h74
    refine v_sub [0, 1, 2, 3, 4, 5, 6, 7, 8, 9] rfl ?_
    exact t_M_turnsOf_213 G l C hr hkh78 hkh108 σ72 a0 x1 x2 x3 x4 x5 x6 x7 x8 x9 hk_a0 hf
  · have hf := ite2_t hf h74
    refine v_aload_n C 0 0 rfl 193 rfl (by decide +kernel) ?_
    obtain ⟨b75, hb75, hf⟩ := drf_e hf
    obtain ⟨hk_b75, hf⟩ := grd_e hf
    refine v_getR C 9 30 hb75 rfl nin_9 (ns_kd_lt hk_a0 (by decide)) hk_a0 (by decide) (by decide) rfl 56 tw_1005 rfl 196 rfl (by decide +kernel) ?_
    refine v_iload C 5 5 rfl 198 rfl (by decide +kernel) ?_
    refine v_iload C 8 8 rfl 200 rfl (by decide +kernel) ?_
    obtain ⟨hi76, hf⟩ := grd_e hf
    obtain ⟨σ77, hσ77, hf⟩ := bnd_e hf
    refine v_iast C hσ77 (ns_kd_lt hk_b75 (by decide)) hk_b75 hi76 201 rfl (by decide +kernel) ?_
    refine v_iload_n C 3 3 rfl 202 rfl (by decide +kernel) ?_
    refine v_iload C 8 8 rfl 204 rfl (by decide +kernel) ?_
    refine v_isub C 205 rfl (by decide +kernel) ?_
    obtain ⟨z78, hz78, hf⟩ := bnd_e hf
    refine v_nmI hz78 ?_
    refine v_istore_n C 3 [(3, .int z78), (0, .ref (G.1 + a0)), (1, .int x1), (2, .int x2), (4, .int x4), (5, .int x5), (6, .int x6), (7, .int x7), (8, .int x8), (9, .int x9), (10, .int x10)] (by decide) rfl 206 rfl (by decide +kernel) ?_
    refine v_iload C 10 10 rfl 208 rfl (by decide +kernel) ?_
    refine v_istore C 4 [(4, .int x10), (3, .int z78), (0, .ref (G.1 + a0)), (1, .int x1), (2, .int x2), (5, .int x5), (6, .int x6), (7, .int x7), (8, .int x8), (9, .int x9), (10, .int x10)] (by decide) rfl 210 rfl (by decide +kernel) ?_
    refine v_goto C 265 (by decide +kernel) ?_
    refine v_goto C 78 (by decide +kernel) ?_
    refine v_sub [2, 3, 4, 1, 0] rfl ?_
    exact hkh78 σ77 a0 x1 x2 z78 x10 hk_a0 hf
theorem t_M_turnsOf_147 (G : ns_G) (l : Launch) {p : Program} {e : Env} {s : State} {m : MethodId} {args : Array Value} {below : List Frame} {meth : Method} {c : Code} (C : ns_Cx G p s m args meth c prog_11_method_54_code "NinthStepModel" 11) (hr : meth.sig.returnType = (some .int)) {r : Int32} {σ' : ns_St} {kh78 : ns_St → Nat → Int32 → Int32 → Int32 → Int32 → Option (Int32 × ns_St)} {kh108 : ns_St → Nat → Int32 → Int32 → Int32 → Int32 → Int32 → Int32 → Int32 → Int32 → Option (Int32 × ns_St)} (hkh78 : ∀ (σ : ns_St) (a0 : Nat) (x1 : Int32) (x2 : Int32) (x3 : Int32) (x4 : Int32), ns_kd a0 = 9 → kh78 σ a0 x1 x2 x3 x4 = some (r, σ') → VV G p l e { frames := 74, cells := 0, slots := 0, locals := 2265 } s m args below meth c 11 0 0 (MQ below (ns_Qc G (some (.int r)) ns_N σ') args s 0 0 (ns_A G)) ns_N σ 78 [(0, .ref (G.1 + a0)), (1, .int x1), (2, .int x2), (3, .int x3), (4, .int x4)] []) (hkh108 : ∀ (σ : ns_St) (a0 : Nat) (x1 : Int32) (x2 : Int32) (x3 : Int32) (x4 : Int32) (x5 : Int32) (x6 : Int32) (x7 : Int32) (x8 : Int32), ns_kd a0 = 9 → kh108 σ a0 x1 x2 x3 x4 x5 x6 x7 x8 = some (r, σ') → VV G p l e { frames := 74, cells := 0, slots := 0, locals := 2265 } s m args below meth c 11 0 0 (MQ below (ns_Qc G (some (.int r)) ns_N σ') args s 0 0 (ns_A G)) ns_N σ 108 [(0, .ref (G.1 + a0)), (1, .int x1), (2, .int x2), (3, .int x3), (4, .int x4), (5, .int x5), (6, .int x6), (7, .int x7), (8, .int x8)] []) (σ : ns_St) (a0 : Nat) (x1 : Int32) (x2 : Int32) (x3 : Int32) (x4 : Int32) (x5 : Int32) (x6 : Int32) (x7 : Int32) (x8 : Int32) (x9 : Int32) (hk_a0 : ns_kd a0 = 9) (hf : g_M_turnsOf_147 kh78 kh108 σ a0 x1 x2 x3 x4 x5 x6 x7 x8 x9 = some (r, σ')) : VV G p l e { frames := 74, cells := 0, slots := 0, locals := 2265 } s m args below meth c 11 0 0 (MQ below (ns_Qc G (some (.int r)) ns_N σ') args s 0 0 (ns_A G)) ns_N σ 147 [(0, .ref (G.1 + a0)), (1, .int x1), (2, .int x2), (3, .int x3), (4, .int x4), (5, .int x5), (6, .int x6), (7, .int x7), (8, .int x8), (9, .int x9)] [] := by
  unfold g_M_turnsOf_147 at hf
  refine v_aload_n C 0 0 rfl 148 rfl (by decide +kernel) ?_
  refine v_iconst C (0) (0) (by decide) 149 rfl (by decide +kernel) ?_
  obtain ⟨r80, σ79, hcr80, hf⟩ := cl2_e hf
  refine v_cV C 9 rfl (ns_kd_lt hk_a0 (by decide)) hk_a0 (by decide) [.int (0 : Int32)] [] (c_M_stepped G l σ a0 (0 : Int32) hcr80) 208 1 tw_1246 tw_1243 tw_1245 ts_92 tw_10 hd_M_stepped rfl ⟨(Nat.le_of_ble_eq_true rfl), (Nat.le_of_ble_eq_true rfl)⟩ ⟨(Nat.le_of_ble_eq_true rfl), (Nat.le_of_ble_eq_true rfl)⟩ (Nat.le_of_ble_eq_true rfl) rfl 152 rfl (by decide +kernel) [.int r80] rfl ?_
  refine v_istore C 10 [(10, .int r80), (0, .ref (G.1 + a0)), (1, .int x1), (2, .int x2), (3, .int x3), (4, .int x4), (5, .int x5), (6, .int x6), (7, .int x7), (8, .int x8), (9, .int x9)] (by decide) rfl 154 rfl (by decide +kernel) ?_
  refine v_iload C 10 0 rfl 156 rfl (by decide +kernel) ?_
  refine v_if_eq C 171 159 rfl (by decide +kernel) (fun h81 => ?_) (fun h81 => ?_)
  · have hf := ite2_t hf h81
    refine v_sub [1, 2, 3, 4, 5, 6, 7, 8, 9, 10, 0] rfl ?_
    exact t_M_turnsOf_171 G l C hr hkh78 hkh108 σ79 a0 x1 x2 x3 x4 x5 x6 x7 x8 x9 r80 hk_a0 hf
  · have hf := ite2_f hf h81
    refine v_aload_n C 0 1 rfl 160 rfl (by decide +kernel) ?_
    refine v_aload_n C 0 1 rfl 161 rfl (by decide +kernel) ?_
    refine v_getI C 9 27 rfl nin_9 (ns_kd_lt hk_a0 (by decide)) hk_a0 (by decide) (by decide) rfl 191 tw_1002 rfl 164 rfl (by decide +kernel) ?_
    refine v_iconst C (4) (4) (by decide) 165 rfl (by decide +kernel) ?_
    obtain ⟨r83, σ82, hcr83, hf⟩ := cl2_e hf
    refine v_cV C 9 rfl (ns_kd_lt hk_a0 (by decide)) hk_a0 (by decide) [.int (σ79.1 a0 27), .int (4 : Int32)] [] (c_M_isThere G l σ79 a0 (σ79.1 a0 27) (4 : Int32) hcr83) 87 2 tw_1130 tw_1127 tw_1129 ts_79 tw_10 hd_M_isThere rfl ⟨(Nat.le_of_ble_eq_true rfl), (Nat.le_of_ble_eq_true rfl)⟩ ⟨(Nat.le_of_ble_eq_true rfl), (Nat.le_of_ble_eq_true rfl)⟩ (Nat.le_of_ble_eq_true rfl) rfl 168 rfl (by decide +kernel) [.int r83] rfl ?_
    refine v_if_ne C 213 171 rfl (by decide +kernel) (fun h84 => ?_) (fun h84 => ?_)
    · have hf := ite2_f hf h84
      refine v_sub [1, 2, 3, 4, 5, 6, 7, 8, 9, 10] rfl ?_
      exact t_M_turnsOf_213 G l C hr hkh78 hkh108 σ82 a0 x1 x2 x3 x4 x5 x6 x7 x8 x9 hk_a0 hf
    · have hf := ite2_t hf h84
      refine v_sub [1, 2, 3, 4, 5, 6, 7, 8, 9, 10, 0] rfl ?_
      exact t_M_turnsOf_171 G l C hr hkh78 hkh108 σ82 a0 x1 x2 x3 x4 x5 x6 x7 x8 x9 r80 hk_a0 hf
theorem t_M_turnsOf_108 (G : ns_G) (l : Launch) {p : Program} {e : Env} {s : State} {m : MethodId} {args : Array Value} {below : List Frame} {meth : Method} {c : Code} (C : ns_Cx G p s m args meth c prog_11_method_54_code "NinthStepModel" 11) (hr : meth.sig.returnType = (some .int)) {r : Int32} {σ' : ns_St} {kh78 : ns_St → Nat → Int32 → Int32 → Int32 → Int32 → Option (Int32 × ns_St)} (hkh78 : ∀ (σ : ns_St) (a0 : Nat) (x1 : Int32) (x2 : Int32) (x3 : Int32) (x4 : Int32), ns_kd a0 = 9 → kh78 σ a0 x1 x2 x3 x4 = some (r, σ') → VV G p l e { frames := 74, cells := 0, slots := 0, locals := 2265 } s m args below meth c 11 0 0 (MQ below (ns_Qc G (some (.int r)) ns_N σ') args s 0 0 (ns_A G)) ns_N σ 78 [(0, .ref (G.1 + a0)), (1, .int x1), (2, .int x2), (3, .int x3), (4, .int x4)] []) : ∀ (f : Nat) (σ : ns_St) (a0 : Nat) (x1 : Int32) (x2 : Int32) (x3 : Int32) (x4 : Int32) (x5 : Int32) (x6 : Int32) (x7 : Int32) (x8 : Int32) (hk_a0 : ns_kd a0 = 9), g_M_turnsOf_108 kh78 f σ a0 x1 x2 x3 x4 x5 x6 x7 x8 = some (r, σ') → VV G p l e { frames := 74, cells := 0, slots := 0, locals := 2265 } s m args below meth c 11 0 0 (MQ below (ns_Qc G (some (.int r)) ns_N σ') args s 0 0 (ns_A G)) ns_N σ 108 [(0, .ref (G.1 + a0)), (1, .int x1), (2, .int x2), (3, .int x3), (4, .int x4), (5, .int x5), (6, .int x6), (7, .int x7), (8, .int x8)] [] := by
  intro f
  induction f with
  | zero =>
    intro σ a0 x1 x2 x3 x4 x5 x6 x7 x8 hk_a0 hf
    cases hf
  | succ f ih =>
    intro σ a0 x1 x2 x3 x4 x5 x6 x7 x8 hk_a0 hf
    rw [g_M_turnsOf_108] at hf
    refine v_iload C 8 8 rfl 110 rfl (by decide +kernel) ?_
    refine v_iconst C (4) (4) (by decide) 111 rfl (by decide +kernel) ?_
    refine v_icmp_ge C 265 114 rfl (by decide +kernel) (fun h85 => ?_) (fun h85 => ?_)
    · have hf := ite2_t hf h85
      refine v_goto C 78 (by decide +kernel) ?_
      refine v_sub [0, 1, 2, 3, 4] rfl ?_
      exact hkh78 σ a0 x1 x2 x3 x4 hk_a0 hf
    · have hf := ite2_f hf h85
      refine v_aload_n C 0 0 rfl 115 rfl (by decide +kernel) ?_
      refine v_getI C 9 28 rfl nin_9 (ns_kd_lt hk_a0 (by decide)) hk_a0 (by decide) (by decide) rfl 194 tw_1003 rfl 118 rfl (by decide +kernel) ?_
      obtain ⟨z86, hz86, hf⟩ := bnd_e hf
      refine v_nmI hz86 ?_
      refine v_istore C 9 [(9, .int z86), (0, .ref (G.1 + a0)), (1, .int x1), (2, .int x2), (3, .int x3), (4, .int x4), (5, .int x5), (6, .int x6), (7, .int x7), (8, .int x8)] (by decide) rfl 120 rfl (by decide +kernel) ?_
      refine v_iload C 7 8 rfl 122 rfl (by decide +kernel) ?_
      refine v_if_ne C 147 125 rfl (by decide +kernel) (fun h87 => ?_) (fun h87 => ?_)
      · have hf := ite2_f hf h87
        refine v_sub [1, 2, 3, 4, 5, 6, 7, 8, 9, 0] rfl ?_
        exact t_M_turnsOf_147 G l C hr hkh78 ih σ a0 x1 x2 x3 x4 x5 x6 x7 x8 z86 hk_a0 hf
      · have hf := ite2_t hf h87
        refine v_iload C 5 6 rfl 127 rfl (by decide +kernel) ?_
        refine v_aload_n C 0 1 rfl 128 rfl (by decide +kernel) ?_
        obtain ⟨b88, hb88, hf⟩ := drf_e hf
        obtain ⟨hk_b88, hf⟩ := grd_e hf
        refine v_getR C 9 8 hb88 rfl nin_9 (ns_kd_lt hk_a0 (by decide)) hk_a0 (by decide) (by decide) rfl 29 tw_983 rfl 131 rfl (by decide +kernel) ?_
        refine v_iload_n C 1 2 rfl 132 rfl (by decide +kernel) ?_
        obtain ⟨hi89, hf⟩ := grd_e hf
        refine v_iald C (ns_kd_lt hk_b88 (by decide)) hk_b88 hi89 133 rfl (by decide +kernel) ?_
        refine v_icmp_eq C 147 136 rfl (by decide +kernel) (fun h90 => ?_) (fun h90 => ?_)
        · have hf := ite2_t hf h90
          refine v_sub [1, 2, 3, 4, 5, 6, 7, 8, 9, 0] rfl ?_
          exact t_M_turnsOf_147 G l C hr hkh78 ih σ a0 x1 x2 x3 x4 x5 x6 x7 x8 z86 hk_a0 hf
        · have hf := ite2_f hf h90
          refine v_aload_n C 0 1 rfl 137 rfl (by decide +kernel) ?_
          refine v_iload C 5 6 rfl 139 rfl (by decide +kernel) ?_
          refine v_bipush C (8) (8) (by decide) 141 rfl (by decide +kernel) ?_
          obtain ⟨r92, σ91, hcr92, hf⟩ := cl2_e hf
          refine v_cV C 9 rfl (ns_kd_lt hk_a0 (by decide)) hk_a0 (by decide) [.int x5, .int (8 : Int32)] [] (c_M_isThere G l σ a0 x5 (8 : Int32) hcr92) 87 2 tw_1130 tw_1127 tw_1129 ts_79 tw_10 hd_M_isThere rfl ⟨(Nat.le_of_ble_eq_true rfl), (Nat.le_of_ble_eq_true rfl)⟩ ⟨(Nat.le_of_ble_eq_true rfl), (Nat.le_of_ble_eq_true rfl)⟩ (Nat.le_of_ble_eq_true rfl) rfl 144 rfl (by decide +kernel) [.int r92] rfl ?_
          refine v_if_ne C 213 147 rfl (by decide +kernel) (fun h93 => ?_) (fun h93 => ?_)
          · have hf := ite2_f hf h93
            refine v_sub [1, 2, 3, 4, 5, 6, 7, 8, 9, 0] rfl ?_
            exact t_M_turnsOf_213 G l C hr hkh78 ih σ91 a0 x1 x2 x3 x4 x5 x6 x7 x8 z86 hk_a0 hf
          · have hf := ite2_t hf h93
            refine v_sub [1, 2, 3, 4, 5, 6, 7, 8, 9, 0] rfl ?_
            exact t_M_turnsOf_147 G l C hr hkh78 ih σ91 a0 x1 x2 x3 x4 x5 x6 x7 x8 z86 hk_a0 hf
theorem t_M_turnsOf_78 (G : ns_G) (l : Launch) {p : Program} {e : Env} {s : State} {m : MethodId} {args : Array Value} {below : List Frame} {meth : Method} {c : Code} (C : ns_Cx G p s m args meth c prog_11_method_54_code "NinthStepModel" 11) (hr : meth.sig.returnType = (some .int)) {r : Int32} {σ' : ns_St}  : ∀ (f : Nat) (σ : ns_St) (a0 : Nat) (x1 : Int32) (x2 : Int32) (x3 : Int32) (x4 : Int32) (hk_a0 : ns_kd a0 = 9), g_M_turnsOf_78 f σ a0 x1 x2 x3 x4 = some (r, σ') → VV G p l e { frames := 74, cells := 0, slots := 0, locals := 2265 } s m args below meth c 11 0 0 (MQ below (ns_Qc G (some (.int r)) ns_N σ') args s 0 0 (ns_A G)) ns_N σ 78 [(0, .ref (G.1 + a0)), (1, .int x1), (2, .int x2), (3, .int x3), (4, .int x4)] [] := by
  intro f
  induction f with
  | zero =>
    intro σ a0 x1 x2 x3 x4 hk_a0 hf
    cases hf
  | succ f ih =>
    intro σ a0 x1 x2 x3 x4 hk_a0 hf
    rw [g_M_turnsOf_78] at hf
    refine v_aload_n C 0 0 rfl 79 rfl (by decide +kernel) ?_
    refine v_getI C 9 27 rfl nin_9 (ns_kd_lt hk_a0 (by decide)) hk_a0 (by decide) (by decide) rfl 191 tw_1002 rfl 82 rfl (by decide +kernel) ?_
    refine v_aload_n C 0 0 rfl 83 rfl (by decide +kernel) ?_
    refine v_getI C 9 3 rfl nin_9 (ns_kd_lt hk_a0 (by decide)) hk_a0 (by decide) (by decide) rfl 59 tw_978 rfl 86 rfl (by decide +kernel) ?_
    refine v_icmp_ge C 268 89 rfl (by decide +kernel) (fun h94 => ?_) (fun h94 => ?_)
    · have hf := ite2_t hf h94
      refine v_iload_n C 2 2 rfl 269 rfl (by decide +kernel) ?_
      obtain ⟨rfl, rfl⟩ := ret_e hf
      exact v_iret C hr (by decide +kernel)
    · have hf := ite2_f hf h94
      refine v_aload_n C 0 0 rfl 90 rfl (by decide +kernel) ?_
      refine v_getI C 9 27 rfl nin_9 (ns_kd_lt hk_a0 (by decide)) hk_a0 (by decide) (by decide) rfl 191 tw_1002 rfl 93 rfl (by decide +kernel) ?_
      obtain ⟨z95, hz95, hf⟩ := bnd_e hf
      refine v_nmI hz95 ?_
      refine v_istore C 5 [(5, .int z95), (0, .ref (G.1 + a0)), (1, .int x1), (2, .int x2), (3, .int x3), (4, .int x4)] (by decide) rfl 95 rfl (by decide +kernel) ?_
      refine v_aload_n C 0 1 rfl 96 rfl (by decide +kernel) ?_
      refine v_getI C 9 26 rfl nin_9 (ns_kd_lt hk_a0 (by decide)) hk_a0 (by decide) (by decide) rfl 188 tw_1001 rfl 99 rfl (by decide +kernel) ?_
      obtain ⟨z96, hz96, hf⟩ := bnd_e hf
      refine v_nmI hz96 ?_
      refine v_istore C 6 [(6, .int z96), (5, .int z95), (0, .ref (G.1 + a0)), (1, .int x1), (2, .int x2), (3, .int x3), (4, .int x4)] (by decide) rfl 101 rfl (by decide +kernel) ?_
      refine v_iload C 4 6 rfl 103 rfl (by decide +kernel) ?_
      refine v_istore C 7 [(7, .int x4), (6, .int z96), (5, .int z95), (0, .ref (G.1 + a0)), (1, .int x1), (2, .int x2), (3, .int x3), (4, .int x4)] (by decide) rfl 105 rfl (by decide +kernel) ?_
      refine v_iconst C (0) (0) (by decide) 106 rfl (by decide +kernel) ?_
      refine v_istore C 8 [(8, .int (0 : Int32)), (7, .int x4), (6, .int z96), (5, .int z95), (0, .ref (G.1 + a0)), (1, .int x1), (2, .int x2), (3, .int x3), (4, .int x4)] (by decide) rfl 108 rfl (by decide +kernel) ?_
      refine v_sub [4, 5, 6, 7, 8, 3, 2, 1, 0] rfl ?_
      exact t_M_turnsOf_108 G l C hr ih ns_F σ a0 x1 x2 x3 x4 z95 z96 x4 (0 : Int32) hk_a0 hf
theorem t_M_turnsOf_26 (G : ns_G) (l : Launch) {p : Program} {e : Env} {s : State} {m : MethodId} {args : Array Value} {below : List Frame} {meth : Method} {c : Code} (C : ns_Cx G p s m args meth c prog_11_method_54_code "NinthStepModel" 11) (hr : meth.sig.returnType = (some .int)) {r : Int32} {σ' : ns_St}  : ∀ (f : Nat) (σ : ns_St) (a0 : Nat) (x1 : Int32) (x2 : Int32) (hk_a0 : ns_kd a0 = 9), g_M_turnsOf_26 f σ a0 x1 x2 = some (r, σ') → VV G p l e { frames := 74, cells := 0, slots := 0, locals := 2265 } s m args below meth c 11 0 0 (MQ below (ns_Qc G (some (.int r)) ns_N σ') args s 0 0 (ns_A G)) ns_N σ 26 [(0, .ref (G.1 + a0)), (1, .int x1), (2, .int x2)] [] := by
  intro f
  induction f with
  | zero =>
    intro σ a0 x1 x2 hk_a0 hf
    cases hf
  | succ f ih =>
    intro σ a0 x1 x2 hk_a0 hf
    rw [g_M_turnsOf_26] at hf
    refine v_iload_n C 2 2 rfl 27 rfl (by decide +kernel) ?_
    refine v_bipush C (61) (61) (by decide) 29 rfl (by decide +kernel) ?_
    refine v_icmp_ge C 45 32 rfl (by decide +kernel) (fun h97 => ?_) (fun h97 => ?_)
    · have hf := ite2_t hf h97
      refine v_aload_n C 0 0 rfl 46 rfl (by decide +kernel) ?_
      refine v_iload_n C 1 1 rfl 47 rfl (by decide +kernel) ?_
      obtain ⟨r99, σ98, hcr99, hf⟩ := cl2_e hf
      refine v_cV C 9 rfl (ns_kd_lt hk_a0 (by decide)) hk_a0 (by decide) [.int x1] [] (c_M_begins G l σ a0 x1 hcr99) 205 1 tw_1242 tw_1239 tw_1241 ts_91 tw_10 hd_M_begins rfl ⟨(Nat.le_of_ble_eq_true rfl), (Nat.le_of_ble_eq_true rfl)⟩ ⟨(Nat.le_of_ble_eq_true rfl), (Nat.le_of_ble_eq_true rfl)⟩ (Nat.le_of_ble_eq_true rfl) rfl 50 rfl (by decide +kernel) [] rfl ?_
      refine v_aload_n C 0 0 rfl 51 rfl (by decide +kernel) ?_
      refine v_aload_n C 0 0 rfl 52 rfl (by decide +kernel) ?_
      obtain ⟨b100, hb100, hf⟩ := drf_e hf
      obtain ⟨hk_b100, hf⟩ := grd_e hf
      refine v_getR C 9 8 hb100 rfl nin_9 (ns_kd_lt hk_a0 (by decide)) hk_a0 (by decide) (by decide) rfl 29 tw_983 rfl 55 rfl (by decide +kernel) ?_
      refine v_iload_n C 1 1 rfl 56 rfl (by decide +kernel) ?_
      obtain ⟨hi101, hf⟩ := grd_e hf
      refine v_iald C (ns_kd_lt hk_b100 (by decide)) hk_b100 hi101 57 rfl (by decide +kernel) ?_
      refine v_iconst C (0) (0) (by decide) 58 rfl (by decide +kernel) ?_
      obtain ⟨r103, σ102, hcr103, hf⟩ := cl2_e hf
      refine v_cV C 9 rfl (ns_kd_lt hk_a0 (by decide)) hk_a0 (by decide) [.int (σ98.1 b100 (ns_ix x1)), .int (0 : Int32)] [] (c_M_turning G l ns_D σ98 a0 (σ98.1 b100 (ns_ix x1)) (0 : Int32) hcr103) 224 2 tw_1299 tw_1296 tw_1298 ts_99 tw_10 hd_M_turning rfl ⟨(Nat.le_of_ble_eq_true rfl), (Nat.le_of_ble_eq_true rfl)⟩ ⟨(Nat.le_of_ble_eq_true rfl), (Nat.le_of_ble_eq_true rfl)⟩ (Nat.le_of_ble_eq_true rfl) rfl 61 rfl (by decide +kernel) [.int r103] rfl ?_
      refine v_iconst C (1) (1) (by decide) 62 rfl (by decide +kernel) ?_
      refine v_isub C 63 rfl (by decide +kernel) ?_
      obtain ⟨z104, hz104, hf⟩ := bnd_e hf
      refine v_nmI hz104 ?_
      refine v_istore_n C 2 [(2, .int z104), (0, .ref (G.1 + a0)), (1, .int x1)] (by decide) rfl 64 rfl (by decide +kernel) ?_
      refine v_iload_n C 2 0 rfl 65 rfl (by decide +kernel) ?_
      refine v_sipush C (900) (900) (by decide) 68 rfl (by decide +kernel) ?_
      refine v_icmp_le C 73 71 rfl (by decide +kernel) (fun h105 => ?_) (fun h105 => ?_)
      · have hf := ite2_t hf h105
        refine v_iload_n C 2 0 rfl 74 rfl (by decide +kernel) ?_
        refine v_istore_n C 3 [(3, .int z104), (2, .int z104), (0, .ref (G.1 + a0)), (1, .int x1)] (by decide) rfl 75 rfl (by decide +kernel) ?_
        refine v_iconst C (0) (0) (by decide) 76 rfl (by decide +kernel) ?_
        refine v_istore C 4 [(4, .int (0 : Int32)), (3, .int z104), (2, .int z104), (0, .ref (G.1 + a0)), (1, .int x1)] (by decide) rfl 78 rfl (by decide +kernel) ?_
        refine v_sub [3, 4, 2, 1, 0] rfl ?_
        exact t_M_turnsOf_78 G l C hr  ns_F σ102 a0 x1 z104 z104 (0 : Int32) hk_a0 hf
      · have hf := ite2_f hf h105
        refine v_iconst C (-1) (-1) (by decide) 72 rfl (by decide +kernel) ?_
        obtain ⟨rfl, rfl⟩ := ret_e hf
        exact v_iret C hr (by decide +kernel)
    · have hf := ite2_f hf h97
      refine v_aload_n C 0 0 rfl 33 rfl (by decide +kernel) ?_
      obtain ⟨b106, hb106, hf⟩ := drf_e hf
      obtain ⟨hk_b106, hf⟩ := grd_e hf
      refine v_getR C 9 30 hb106 rfl nin_9 (ns_kd_lt hk_a0 (by decide)) hk_a0 (by decide) (by decide) rfl 56 tw_1005 rfl 36 rfl (by decide +kernel) ?_
      refine v_iload_n C 2 2 rfl 37 rfl (by decide +kernel) ?_
      refine v_iconst C (0) (0) (by decide) 38 rfl (by decide +kernel) ?_
      obtain ⟨hi107, hf⟩ := grd_e hf
      obtain ⟨σ108, hσ108, hf⟩ := bnd_e hf
      refine v_iast C hσ108 (ns_kd_lt hk_b106 (by decide)) hk_b106 hi107 39 rfl (by decide +kernel) ?_
      obtain ⟨z109, hz109, hf⟩ := bnd_e hf
      refine v_iinc C 2 (1) 2 z109 rfl (by rw [hz109]; rfl) [(2, .int z109), (0, .ref (G.1 + a0)), (1, .int x1)] (by decide) rfl 42 rfl (by decide +kernel) ?_
      refine v_goto C 26 (by decide +kernel) ?_
      refine v_sub [1, 2, 0] rfl ?_
      exact ih σ108 a0 x1 z109 hk_a0 hf
theorem t_M_turnsOf_2 (G : ns_G) (l : Launch) {p : Program} {e : Env} {s : State} {m : MethodId} {args : Array Value} {below : List Frame} {meth : Method} {c : Code} (C : ns_Cx G p s m args meth c prog_11_method_54_code "NinthStepModel" 11) (hr : meth.sig.returnType = (some .int)) {r : Int32} {σ' : ns_St}  : ∀ (f : Nat) (σ : ns_St) (a0 : Nat) (x1 : Int32) (x2 : Int32) (hk_a0 : ns_kd a0 = 9), g_M_turnsOf_2 f σ a0 x1 x2 = some (r, σ') → VV G p l e { frames := 74, cells := 0, slots := 0, locals := 2265 } s m args below meth c 11 0 0 (MQ below (ns_Qc G (some (.int r)) ns_N σ') args s 0 0 (ns_A G)) ns_N σ 2 [(0, .ref (G.1 + a0)), (1, .int x1), (2, .int x2)] [] := by
  intro f
  induction f with
  | zero =>
    intro σ a0 x1 x2 hk_a0 hf
    cases hf
  | succ f ih =>
    intro σ a0 x1 x2 hk_a0 hf
    rw [g_M_turnsOf_2] at hf
    refine v_iload_n C 2 2 rfl 3 rfl (by decide +kernel) ?_
    refine v_aload_n C 0 0 rfl 4 rfl (by decide +kernel) ?_
    obtain ⟨b110, hb110, hf⟩ := drf_e hf
    obtain ⟨hk_b110, hf⟩ := grd_e hf
    refine v_getR C 9 29 hb110 rfl nin_9 (ns_kd_lt hk_a0 (by decide)) hk_a0 (by decide) (by decide) rfl 53 tw_1004 rfl 7 rfl (by decide +kernel) ?_
    obtain ⟨z111, hz111, hf⟩ := bnd_e hf
    refine v_alenI C z111 (ns_kd_lt hk_b110 (by decide)) hk_b110 hz111 8 rfl (by decide +kernel) ?_
    refine v_icmp_ge C 24 11 rfl (by decide +kernel) (fun h112 => ?_) (fun h112 => ?_)
    · have hf := ite2_t hf h112
      refine v_iconst C (0) (0) (by decide) 25 rfl (by decide +kernel) ?_
      refine v_istore_n C 2 [(2, .int (0 : Int32)), (0, .ref (G.1 + a0)), (1, .int x1)] (by decide) rfl 26 rfl (by decide +kernel) ?_
      refine v_sub [1, 2, 0] rfl ?_
      exact t_M_turnsOf_26 G l C hr  ns_F σ a0 x1 (0 : Int32) hk_a0 hf
    · have hf := ite2_f hf h112
      refine v_aload_n C 0 0 rfl 12 rfl (by decide +kernel) ?_
      obtain ⟨b113, hb113, hf⟩ := drf_e hf
      obtain ⟨hk_b113, hf⟩ := grd_e hf
      refine v_getR C 9 29 hb113 rfl nin_9 (ns_kd_lt hk_a0 (by decide)) hk_a0 (by decide) (by decide) rfl 53 tw_1004 rfl 15 rfl (by decide +kernel) ?_
      refine v_iload_n C 2 2 rfl 16 rfl (by decide +kernel) ?_
      refine v_iconst C (0) (0) (by decide) 17 rfl (by decide +kernel) ?_
      obtain ⟨hi114, hf⟩ := grd_e hf
      obtain ⟨σ115, hσ115, hf⟩ := bnd_e hf
      refine v_iast C hσ115 (ns_kd_lt hk_b113 (by decide)) hk_b113 hi114 18 rfl (by decide +kernel) ?_
      obtain ⟨z116, hz116, hf⟩ := bnd_e hf
      refine v_iinc C 2 (1) 2 z116 rfl (by rw [hz116]; rfl) [(2, .int z116), (0, .ref (G.1 + a0)), (1, .int x1)] (by decide) rfl 21 rfl (by decide +kernel) ?_
      refine v_goto C 2 (by decide +kernel) ?_
      refine v_sub [1, 2, 0] rfl ?_
      exact ih σ115 a0 x1 z116 hk_a0 hf
theorem c_M_turnsOf (G : ns_G) (l : Launch) (σ : ns_St) (a0 : Nat) (x1 : Int32) {r : Int32} {σ' : ns_St} (hf : g_M_turnsOf σ a0 x1 = some (r, σ')) : ns_ok G l ⟨"NinthStepModel", "turnsOf", "(I)I"⟩ prog_11_method_54_code 11 (some .int) 74 2265 0 0 [.ref (G.1 + a0), .int x1] ns_N σ (some (.int r)) ns_N σ' := by
  refine v_open (by decide) (Nat.le_of_ble_eq_true rfl) rfl ?_
  intro p e s m below meth c C hr _
  have C : ns_Cx G p s m _ meth c prog_11_method_54_code "NinthStepModel" 11 := C
  unfold g_M_turnsOf at hf
  obtain ⟨hk_a0, hf⟩ := grd_e hf
  refine v_iconst C (0) (0) (by decide) 1 rfl (by decide +kernel) ?_
  refine v_istore_n C 2 [(2, .int (0 : Int32)), (0, .ref (G.1 + a0)), (1, .int x1)] (by decide) rfl 2 rfl (by decide +kernel) ?_
  refine v_sub [1, 2, 0] rfl ?_
  exact t_M_turnsOf_2 G l C hr  ns_F σ a0 x1 (0 : Int32) hk_a0 hf
theorem hd_M_turnsOf : (⟨"NinthStepModel", "turnsOf", "(I)I"⟩ : MethodName).cls = "NinthStepModel" ∧ (⟨"NinthStepModel", "turnsOf", "(I)I"⟩ : MethodName).cls ≠ "java/lang/invoke/MethodHandle" ∧ (⟨"NinthStepModel", "turnsOf", "(I)I"⟩ : MethodName).cls ≠ "java/lang/invoke/VarHandle" ∧ (parseMethodDescriptor (⟨"NinthStepModel", "turnsOf", "(I)I"⟩ : MethodName).desc).map (fun d => d.parameters.length) = some 1 := by decide +kernel
def g_M_turns_28  (σ : ns_St) (a0 : Nat) (x1 : Int32) (x2 : Int32) : Option (Int32 × ns_St) := cl2 (g_M_turnsOf σ a0 x1) fun r19 σ18 => ite2 (r19 = (-1 : Int32)) (some (r19, σ18)) (ite2 (x2 = (-1 : Int32)) (some (r19, σ18)) (drf (σ18.2.2 a0 30) fun b22 => grd (ns_kd b22 = 10) <| grd (ns_in x2 (ns_ln b22)) <| some ((σ18.1 b22 (ns_ix x2)), σ18)))
def g_M_turns (σ : ns_St) (a0 : Nat) (x1 : Int32) (x2 : Int32) : Option (Int32 × ns_St) := grd (ns_kd a0 = 9) <| cl2 (g_M_isMule σ a0 x1) fun r25 σ24 => ite2 (r25 = 0) (cl2 (g_M_no σ24 a0 (-2 : Int32)) fun r28 σ27 => some (r28, σ27)) (ite2 (x2 = (-1 : Int32)) (g_M_turns_28 σ24 a0 x1 x2) (cl2 (g_M_isPlace σ24 a0 x2) fun r31 σ30 => ite2 (r31 = 0) (cl2 (g_M_no σ30 a0 (-2 : Int32)) fun r34 σ33 => some (r34, σ33)) (g_M_turns_28 σ30 a0 x1 x2)))
theorem t_M_turns_28 (G : ns_G) (l : Launch) {p : Program} {e : Env} {s : State} {m : MethodId} {args : Array Value} {below : List Frame} {meth : Method} {c : Code} (C : ns_Cx G p s m args meth c prog_11_method_55_code "NinthStepModel" 4) (hr : meth.sig.returnType = (some .int)) {r : Int32} {σ' : ns_St}  (σ : ns_St) (a0 : Nat) (x1 : Int32) (x2 : Int32) (hk_a0 : ns_kd a0 = 9) (hf : g_M_turns_28 σ a0 x1 x2 = some (r, σ')) : VV G p l e { frames := 75, cells := 0, slots := 0, locals := 2295 } s m args below meth c 4 0 0 (MQ below (ns_Qc G (some (.int r)) ns_N σ') args s 0 0 (ns_A G)) ns_N σ 28 [(0, .ref (G.1 + a0)), (1, .int x1), (2, .int x2)] [] := by
  unfold g_M_turns_28 at hf
  refine v_aload_n C 0 0 rfl 29 rfl (by decide +kernel) ?_
  refine v_iload_n C 1 1 rfl 30 rfl (by decide +kernel) ?_
  obtain ⟨r19, σ18, hcr19, hf⟩ := cl2_e hf
  refine v_cV C 9 rfl (ns_kd_lt hk_a0 (by decide)) hk_a0 (by decide) [.int x1] [] (c_M_turnsOf G l σ a0 x1 hcr19) 228 1 tw_1295 tw_1292 tw_1294 ts_98 tw_10 hd_M_turnsOf rfl ⟨(Nat.le_of_ble_eq_true rfl), (Nat.le_of_ble_eq_true rfl)⟩ ⟨(Nat.le_of_ble_eq_true rfl), (Nat.le_of_ble_eq_true rfl)⟩ (Nat.le_of_ble_eq_true rfl) rfl 33 rfl (by decide +kernel) [.int r19] rfl ?_
  refine v_istore_n C 3 [(3, .int r19), (0, .ref (G.1 + a0)), (1, .int x1), (2, .int x2)] (by decide) rfl 34 rfl (by decide +kernel) ?_
  refine v_iload_n C 3 0 rfl 35 rfl (by decide +kernel) ?_
  refine v_iconst C (-1) (-1) (by decide) 36 rfl (by decide +kernel) ?_
  refine v_icmp_eq C 44 39 rfl (by decide +kernel) (fun h20 => ?_) (fun h20 => ?_)
  · have hf := ite2_t hf h20
    refine v_iload_n C 3 0 rfl 45 rfl (by decide +kernel) ?_
    refine v_goto C 54 (by decide +kernel) ?_
    obtain ⟨rfl, rfl⟩ := ret_e hf
    exact v_iret C hr (by decide +kernel)
  · have hf := ite2_f hf h20
    refine v_iload_n C 2 3 rfl 40 rfl (by decide +kernel) ?_
    refine v_iconst C (-1) (-1) (by decide) 41 rfl (by decide +kernel) ?_
    refine v_icmp_ne C 48 44 rfl (by decide +kernel) (fun h21 => ?_) (fun h21 => ?_)
    · have hf := ite2_f hf h21
      refine v_aload_n C 0 1 rfl 49 rfl (by decide +kernel) ?_
      obtain ⟨b22, hb22, hf⟩ := drf_e hf
      obtain ⟨hk_b22, hf⟩ := grd_e hf
      refine v_getR C 9 30 hb22 rfl nin_9 (ns_kd_lt hk_a0 (by decide)) hk_a0 (by decide) (by decide) rfl 56 tw_1005 rfl 52 rfl (by decide +kernel) ?_
      refine v_iload_n C 2 3 rfl 53 rfl (by decide +kernel) ?_
      obtain ⟨hi23, hf⟩ := grd_e hf
      refine v_iald C (ns_kd_lt hk_b22 (by decide)) hk_b22 hi23 54 rfl (by decide +kernel) ?_
      obtain ⟨rfl, rfl⟩ := ret_e hf
      exact v_iret C hr (by decide +kernel)
    · have hf := ite2_t hf h21
      refine v_iload_n C 3 0 rfl 45 rfl (by decide +kernel) ?_
      refine v_goto C 54 (by decide +kernel) ?_
      obtain ⟨rfl, rfl⟩ := ret_e hf
      exact v_iret C hr (by decide +kernel)
theorem c_M_turns (G : ns_G) (l : Launch) (σ : ns_St) (a0 : Nat) (x1 : Int32) (x2 : Int32) {r : Int32} {σ' : ns_St} (hf : g_M_turns σ a0 x1 x2 = some (r, σ')) : ns_ok G l ⟨"NinthStepModel", "turns", "(II)I"⟩ prog_11_method_55_code 4 (some .int) 75 2295 0 0 [.ref (G.1 + a0), .int x1, .int x2] ns_N σ (some (.int r)) ns_N σ' := by
  refine v_open (by decide) (Nat.le_of_ble_eq_true rfl) rfl ?_
  intro p e s m below meth c C hr _
  have C : ns_Cx G p s m _ meth c prog_11_method_55_code "NinthStepModel" 4 := C
  unfold g_M_turns at hf
  obtain ⟨hk_a0, hf⟩ := grd_e hf
  refine v_aload_n C 0 0 rfl 1 rfl (by decide +kernel) ?_
  refine v_iload_n C 1 1 rfl 2 rfl (by decide +kernel) ?_
  obtain ⟨r25, σ24, hcr25, hf⟩ := cl2_e hf
  refine v_cV C 9 rfl (ns_kd_lt hk_a0 (by decide)) hk_a0 (by decide) [.int x1] [] (c_M_isMule G l σ a0 x1 hcr25) 84 1 tw_1111 tw_1108 tw_1110 ts_76 tw_10 hd_M_isMule rfl ⟨(Nat.le_of_ble_eq_true rfl), (Nat.le_of_ble_eq_true rfl)⟩ ⟨(Nat.le_of_ble_eq_true rfl), (Nat.le_of_ble_eq_true rfl)⟩ (Nat.le_of_ble_eq_true rfl) rfl 5 rfl (by decide +kernel) [.int r25] rfl ?_
  refine v_if_eq C 21 8 rfl (by decide +kernel) (fun h26 => ?_) (fun h26 => ?_)
  · have hf := ite2_t hf h26
    refine v_aload_n C 0 0 rfl 22 rfl (by decide +kernel) ?_
    refine v_bipush C (-2) (-2) (by decide) 24 rfl (by decide +kernel) ?_
    obtain ⟨r28, σ27, hcr28, hf⟩ := cl2_e hf
    refine v_cV C 9 rfl (ns_kd_lt hk_a0 (by decide)) hk_a0 (by decide) [.int (-2 : Int32)] [] (c_M_no G l σ24 a0 (-2 : Int32) hcr28) 73 1 tw_1079 tw_1076 tw_1078 ts_73 tw_10 hd_M_no rfl ⟨(Nat.le_of_ble_eq_true rfl), (Nat.le_of_ble_eq_true rfl)⟩ ⟨(Nat.le_of_ble_eq_true rfl), (Nat.le_of_ble_eq_true rfl)⟩ (Nat.le_of_ble_eq_true rfl) rfl 27 rfl (by decide +kernel) [.int r28] rfl ?_
    obtain ⟨rfl, rfl⟩ := ret_e hf
    exact v_iret C hr (by decide +kernel)
  · have hf := ite2_f hf h26
    refine v_iload_n C 2 2 rfl 9 rfl (by decide +kernel) ?_
    refine v_iconst C (-1) (-1) (by decide) 10 rfl (by decide +kernel) ?_
    refine v_icmp_eq C 28 13 rfl (by decide +kernel) (fun h29 => ?_) (fun h29 => ?_)
    · have hf := ite2_t hf h29
      exact t_M_turns_28 G l C hr  σ24 a0 x1 x2 hk_a0 hf
    · have hf := ite2_f hf h29
      refine v_aload_n C 0 0 rfl 14 rfl (by decide +kernel) ?_
      refine v_iload_n C 2 2 rfl 15 rfl (by decide +kernel) ?_
      obtain ⟨r31, σ30, hcr31, hf⟩ := cl2_e hf
      refine v_cV C 9 rfl (ns_kd_lt hk_a0 (by decide)) hk_a0 (by decide) [.int x2] [] (c_M_isPlace G l σ24 a0 x2 hcr31) 109 1 tw_1150 tw_1147 tw_1149 ts_82 tw_10 hd_M_isPlace rfl ⟨(Nat.le_of_ble_eq_true rfl), (Nat.le_of_ble_eq_true rfl)⟩ ⟨(Nat.le_of_ble_eq_true rfl), (Nat.le_of_ble_eq_true rfl)⟩ (Nat.le_of_ble_eq_true rfl) rfl 18 rfl (by decide +kernel) [.int r31] rfl ?_
      refine v_if_ne C 28 21 rfl (by decide +kernel) (fun h32 => ?_) (fun h32 => ?_)
      · have hf := ite2_f hf h32
        exact t_M_turns_28 G l C hr  σ30 a0 x1 x2 hk_a0 hf
      · have hf := ite2_t hf h32
        refine v_aload_n C 0 0 rfl 22 rfl (by decide +kernel) ?_
        refine v_bipush C (-2) (-2) (by decide) 24 rfl (by decide +kernel) ?_
        obtain ⟨r34, σ33, hcr34, hf⟩ := cl2_e hf
        refine v_cV C 9 rfl (ns_kd_lt hk_a0 (by decide)) hk_a0 (by decide) [.int (-2 : Int32)] [] (c_M_no G l σ30 a0 (-2 : Int32) hcr34) 73 1 tw_1079 tw_1076 tw_1078 ts_73 tw_10 hd_M_no rfl ⟨(Nat.le_of_ble_eq_true rfl), (Nat.le_of_ble_eq_true rfl)⟩ ⟨(Nat.le_of_ble_eq_true rfl), (Nat.le_of_ble_eq_true rfl)⟩ (Nat.le_of_ble_eq_true rfl) rfl 27 rfl (by decide +kernel) [.int r34] rfl ?_
        obtain ⟨rfl, rfl⟩ := ret_e hf
        exact v_iret C hr (by decide +kernel)
theorem hd_M_turns : (⟨"NinthStepModel", "turns", "(II)I"⟩ : MethodName).cls = "NinthStepModel" ∧ (⟨"NinthStepModel", "turns", "(II)I"⟩ : MethodName).cls ≠ "java/lang/invoke/MethodHandle" ∧ (⟨"NinthStepModel", "turns", "(II)I"⟩ : MethodName).cls ≠ "java/lang/invoke/VarHandle" ∧ (parseMethodDescriptor (⟨"NinthStepModel", "turns", "(II)I"⟩ : MethodName).desc).map (fun d => d.parameters.length) = some 2 := by decide +kernel
def g_M_stopsAt_13  : Nat → ns_St → Nat → Int32 → Int32 → Option (Int32 × ns_St)
  | 0, _, _, _, _ => none
  | f + 1, σ, a0, x3, x4 => ite2 (x3 ≤ (σ.1 a0 27)) (grd (x4 = 0 ∨ x4 = 1) <| some (x4, σ)) (cl2 (g_M_stepped σ a0 (0 : Int32)) fun r11 σ10 => (g_M_stopsAt_13 f) σ10 a0 x3 r11)
def g_M_stopsAt (σ : ns_St) (a0 : Nat) (x1 : Int32) (x2 : Int32) (x3 : Int32) : Option (Int32 × ns_St) := grd (ns_kd a0 = 9) <| cl2 (g_M_begins σ a0 x1) fun r13 σ12 => bnd (ns_pI σ12 a0 27 x2) fun σ14 => g_M_stopsAt_13 ns_F σ14 a0 x3 (0 : Int32)
theorem t_M_stopsAt_13 (G : ns_G) (l : Launch) {p : Program} {e : Env} {s : State} {m : MethodId} {args : Array Value} {below : List Frame} {meth : Method} {c : Code} (C : ns_Cx G p s m args meth c prog_11_method_56_code "NinthStepModel" 5) (hr : meth.sig.returnType = (some .boolean)) {r : Int32} {σ' : ns_St}  : ∀ (f : Nat) (σ : ns_St) (a0 : Nat) (x3 : Int32) (x4 : Int32) (hk_a0 : ns_kd a0 = 9), g_M_stopsAt_13 f σ a0 x3 x4 = some (r, σ') → VV G p l e { frames := 3, cells := 0, slots := 0, locals := 64 } s m args below meth c 5 0 0 (MQ below (ns_Qc G (some (.int r)) ns_N σ') args s 0 0 (ns_A G)) ns_N σ 13 [(0, .ref (G.1 + a0)), (3, .int x3), (4, .int x4)] [] := by
  intro f
  induction f with
  | zero =>
    intro σ a0 x3 x4 hk_a0 hf
    cases hf
  | succ f ih =>
    intro σ a0 x3 x4 hk_a0 hf
    rw [g_M_stopsAt_13] at hf
    refine v_aload_n C 0 0 rfl 14 rfl (by decide +kernel) ?_
    refine v_getI C 9 27 rfl nin_9 (ns_kd_lt hk_a0 (by decide)) hk_a0 (by decide) (by decide) rfl 191 tw_1002 rfl 17 rfl (by decide +kernel) ?_
    refine v_iload_n C 3 1 rfl 18 rfl (by decide +kernel) ?_
    refine v_icmp_ge C 31 21 rfl (by decide +kernel) (fun h8 => ?_) (fun h8 => ?_)
    · have hf := ite2_t hf h8
      refine v_iload C 4 2 rfl 33 rfl (by decide +kernel) ?_
      obtain ⟨hz9, hf⟩ := grd_e hf
      obtain ⟨rfl, rfl⟩ := ret_e hf
      exact v_zret C hr (ns_z01 hz9) (by decide +kernel)
    · have hf := ite2_f hf h8
      refine v_aload_n C 0 0 rfl 22 rfl (by decide +kernel) ?_
      refine v_iconst C (0) (0) (by decide) 23 rfl (by decide +kernel) ?_
      obtain ⟨r11, σ10, hcr11, hf⟩ := cl2_e hf
      refine v_cV C 9 rfl (ns_kd_lt hk_a0 (by decide)) hk_a0 (by decide) [.int (0 : Int32)] [] (c_M_stepped G l σ a0 (0 : Int32) hcr11) 208 1 tw_1246 tw_1243 tw_1245 ts_92 tw_10 hd_M_stepped rfl ⟨(Nat.le_of_ble_eq_true rfl), (Nat.le_of_ble_eq_true rfl)⟩ ⟨(Nat.le_of_ble_eq_true rfl), (Nat.le_of_ble_eq_true rfl)⟩ (Nat.le_of_ble_eq_true rfl) rfl 26 rfl (by decide +kernel) [.int r11] rfl ?_
      refine v_istore C 4 [(4, .int r11), (0, .ref (G.1 + a0)), (3, .int x3)] (by decide) rfl 28 rfl (by decide +kernel) ?_
      refine v_goto C 13 (by decide +kernel) ?_
      refine v_sub [1, 2, 0] rfl ?_
      exact ih σ10 a0 x3 r11 hk_a0 hf
theorem c_M_stopsAt (G : ns_G) (l : Launch) (σ : ns_St) (a0 : Nat) (x1 : Int32) (x2 : Int32) (x3 : Int32) {r : Int32} {σ' : ns_St} (hf : g_M_stopsAt σ a0 x1 x2 x3 = some (r, σ')) : ns_ok G l ⟨"NinthStepModel", "stopsAt", "(III)Z"⟩ prog_11_method_56_code 5 (some .boolean) 3 64 0 0 [.ref (G.1 + a0), .int x1, .int x2, .int x3] ns_N σ (some (.int r)) ns_N σ' := by
  refine v_open (by decide) (Nat.le_of_ble_eq_true rfl) rfl ?_
  intro p e s m below meth c C hr _
  have C : ns_Cx G p s m _ meth c prog_11_method_56_code "NinthStepModel" 5 := C
  unfold g_M_stopsAt at hf
  obtain ⟨hk_a0, hf⟩ := grd_e hf
  refine v_aload_n C 0 0 rfl 1 rfl (by decide +kernel) ?_
  refine v_iload_n C 1 1 rfl 2 rfl (by decide +kernel) ?_
  obtain ⟨r13, σ12, hcr13, hf⟩ := cl2_e hf
  refine v_cV C 9 rfl (ns_kd_lt hk_a0 (by decide)) hk_a0 (by decide) [.int x1] [] (c_M_begins G l σ a0 x1 hcr13) 205 1 tw_1242 tw_1239 tw_1241 ts_91 tw_10 hd_M_begins rfl ⟨(Nat.le_of_ble_eq_true rfl), (Nat.le_of_ble_eq_true rfl)⟩ ⟨(Nat.le_of_ble_eq_true rfl), (Nat.le_of_ble_eq_true rfl)⟩ (Nat.le_of_ble_eq_true rfl) rfl 5 rfl (by decide +kernel) [] rfl ?_
  refine v_aload_n C 0 0 rfl 6 rfl (by decide +kernel) ?_
  refine v_iload_n C 2 2 rfl 7 rfl (by decide +kernel) ?_
  obtain ⟨σ14, hσ14, hf⟩ := bnd_e hf
  refine v_putI C 9 27 hσ14 rfl nin_9 ny_9 nty_9 nnm_9 (ns_kd_lt hk_a0 (by decide)) hk_a0 (by decide) (by decide) rfl rfl rfl rfl 191 tw_1002 rfl 10 rfl (by decide +kernel) ?_
  refine v_iconst C (0) (0) (by decide) 11 rfl (by decide +kernel) ?_
  refine v_istore C 4 [(4, .int (0 : Int32)), (0, .ref (G.1 + a0)), (1, .int x1), (2, .int x2), (3, .int x3)] (by decide) rfl 13 rfl (by decide +kernel) ?_
  refine v_sub [1, 4, 0] rfl ?_
  exact t_M_stopsAt_13 G l C hr  ns_F σ14 a0 x3 (0 : Int32) hk_a0 hf
theorem hd_M_stopsAt : (⟨"NinthStepModel", "stopsAt", "(III)Z"⟩ : MethodName).cls = "NinthStepModel" ∧ (⟨"NinthStepModel", "stopsAt", "(III)Z"⟩ : MethodName).cls ≠ "java/lang/invoke/MethodHandle" ∧ (⟨"NinthStepModel", "stopsAt", "(III)Z"⟩ : MethodName).cls ≠ "java/lang/invoke/VarHandle" ∧ (parseMethodDescriptor (⟨"NinthStepModel", "stopsAt", "(III)Z"⟩ : MethodName).desc).map (fun d => d.parameters.length) = some 3 := by decide +kernel
