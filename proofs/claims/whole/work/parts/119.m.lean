def g_M_roped_110 (kh66 : ns_St → Nat → Int32 → Int32 → Int32 → Int32 → Int32 → Int32 → Int32 → Option (Int32 × ns_St)) (σ : ns_St) (a0 : Nat) (x1 : Int32) (x2 : Int32) (x3 : Int32) (x4 : Int32) (x5 : Int32) (x6 : Int32) (x7 : Int32) (x8 : Int32) (x9 : Int32) : Option (Int32 × ns_St) := ite2 (x8 = 0) (bnd (x7 + 1) fun z43 => kh66 σ a0 x1 x2 x3 x4 x5 x6 z43) (ite2 (x9 = 0) (bnd (x7 + 1) fun z45 => kh66 σ a0 x1 x2 x3 x4 x5 x6 z45) (ite2 (x6 = (-1 : Int32)) (bnd (x7 + 1) fun z48 => kh66 σ a0 x1 x2 x3 x4 x5 x7 z48) (bnd (x7 + 1) fun z47 => kh66 σ a0 x1 x2 x3 x4 x5 x6 z47)))
def g_M_roped_107 (kh66 : ns_St → Nat → Int32 → Int32 → Int32 → Int32 → Int32 → Int32 → Int32 → Option (Int32 × ns_St)) (σ : ns_St) (a0 : Nat) (x1 : Int32) (x2 : Int32) (x3 : Int32) (x4 : Int32) (x5 : Int32) (x6 : Int32) (x7 : Int32) (x8 : Int32) (x9 : Int32) : Option (Int32 × ns_St) := bnd (x5 + 1) fun z49 => g_M_roped_110 kh66 σ a0 x1 x2 x3 x4 z49 x6 x7 x8 x9
def g_M_roped_66  : Nat → ns_St → Nat → Int32 → Int32 → Int32 → Int32 → Int32 → Int32 → Int32 → Option (Int32 × ns_St)
  | 0, _, _, _, _, _, _, _, _, _ => none
  | f + 1, σ, a0, x1, x2, x3, x4, x5, x6, x7 => ite2 ((σ.1 a0 3) < x7) (ite2 (x3 = 0) (some (x5, σ)) (some (x6, σ))) (cl2 (g_M_stopsAt σ a0 x1 x4 x7) fun r53 σ52 => cl2 (g_M_stopsAt σ52 a0 x2 x4 x7) fun r55 σ54 => ite2 (r53 = 0) (ite2 (r55 = 0) (g_M_roped_110 (g_M_roped_66 f) σ54 a0 x1 x2 x3 x4 x5 x6 x7 r53 r55) (g_M_roped_107 (g_M_roped_66 f) σ54 a0 x1 x2 x3 x4 x5 x6 x7 r53 r55)) (g_M_roped_107 (g_M_roped_66 f) σ54 a0 x1 x2 x3 x4 x5 x6 x7 r53 r55))
def g_M_roped (σ : ns_St) (a0 : Nat) (x1 : Int32) (x2 : Int32) (x3 : Int32) : Option (Int32 × ns_St) := grd (ns_kd a0 = 9) <| cl2 (g_M_isMule σ a0 x1) fun r59 σ58 => ite2 (r59 = 0) (cl2 (g_M_no σ58 a0 (-2 : Int32)) fun r62 σ61 => some (r62, σ61)) (cl2 (g_M_isMule σ58 a0 x2) fun r64 σ63 => ite2 (r64 = 0) (cl2 (g_M_no σ63 a0 (-2 : Int32)) fun r67 σ66 => some (r67, σ66)) (ite2 (x1 = x2) (cl2 (g_M_no σ63 a0 (-2 : Int32)) fun r70 σ69 => some (r70, σ69)) (cl2 (g_M_within σ63 x3 (0 : Int32) (1 : Int32)) fun r72 σ71 => ite2 (r72 = 0) (cl2 (g_M_no σ71 a0 (-2 : Int32)) fun r82 σ81 => some (r82, σ81)) (drf (σ71.2.2 a0 8) fun b74 => grd (ns_kd b74 = 10) <| grd (ns_in x1 (ns_ln b74)) <| drf (σ71.2.2 a0 8) fun b76 => grd (ns_kd b76 = 10) <| grd (ns_in x2 (ns_ln b76)) <| cl2 (g_Math_max σ71 (σ71.1 b74 (ns_ix x1)) (σ71.1 b76 (ns_ix x2))) fun r79 σ78 => bnd (r79 + (1 : Int32)) fun z80 => g_M_roped_66 ns_F σ78 a0 x1 x2 x3 r79 (0 : Int32) (-1 : Int32) z80))))
theorem t_M_roped_110 (G : ns_G) (l : Launch) {p : Program} {e : Env} {s : State} {m : MethodId} {args : Array Value} {below : List Frame} {meth : Method} {c : Code} (C : ns_Cx G p s m args meth c prog_11_method_57_code "NinthStepModel" 10) (hr : meth.sig.returnType = (some .int)) {r : Int32} {σ' : ns_St} {kh66 : ns_St → Nat → Int32 → Int32 → Int32 → Int32 → Int32 → Int32 → Int32 → Option (Int32 × ns_St)} (hkh66 : ∀ (σ : ns_St) (a0 : Nat) (x1 : Int32) (x2 : Int32) (x3 : Int32) (x4 : Int32) (x5 : Int32) (x6 : Int32) (x7 : Int32), ns_kd a0 = 9 → kh66 σ a0 x1 x2 x3 x4 x5 x6 x7 = some (r, σ') → VV G p l e { frames := 4, cells := 0, slots := 0, locals := 88 } s m args below meth c 10 0 0 (MQ below (ns_Qc G (some (.int r)) ns_N σ') args s 0 0 (ns_A G)) ns_N σ 66 [(0, .ref (G.1 + a0)), (1, .int x1), (2, .int x2), (3, .int x3), (4, .int x4), (5, .int x5), (6, .int x6), (7, .int x7)] []) (σ : ns_St) (a0 : Nat) (x1 : Int32) (x2 : Int32) (x3 : Int32) (x4 : Int32) (x5 : Int32) (x6 : Int32) (x7 : Int32) (x8 : Int32) (x9 : Int32) (hk_a0 : ns_kd a0 = 9) (hf : g_M_roped_110 kh66 σ a0 x1 x2 x3 x4 x5 x6 x7 x8 x9 = some (r, σ')) : VV G p l e { frames := 4, cells := 0, slots := 0, locals := 88 } s m args below meth c 10 0 0 (MQ below (ns_Qc G (some (.int r)) ns_N σ') args s 0 0 (ns_A G)) ns_N σ 110 [(0, .ref (G.1 + a0)), (1, .int x1), (2, .int x2), (3, .int x3), (4, .int x4), (5, .int x5), (6, .int x6), (7, .int x7), (8, .int x8), (9, .int x9)] [] := by
  unfold g_M_roped_110 at hf
  refine v_iload C 8 8 rfl 112 rfl (by decide +kernel) ?_
  refine v_if_eq C 130 115 rfl (by decide +kernel) (fun h42 => ?_) (fun h42 => ?_)
  · have hf := ite2_t hf h42
    obtain ⟨z43, hz43, hf⟩ := bnd_e hf
    refine v_iinc C 7 (1) 7 z43 rfl (by rw [hz43]; rfl) [(7, .int z43), (0, .ref (G.1 + a0)), (1, .int x1), (2, .int x2), (3, .int x3), (4, .int x4), (5, .int x5), (6, .int x6), (8, .int x8), (9, .int x9)] (by decide) rfl 133 rfl (by decide +kernel) ?_
    refine v_goto C 66 (by decide +kernel) ?_
    refine v_sub [1, 2, 3, 4, 5, 6, 7, 0] rfl ?_
    exact hkh66 σ a0 x1 x2 x3 x4 x5 x6 z43 hk_a0 hf
  · have hf := ite2_f hf h42
    refine v_iload C 9 9 rfl 117 rfl (by decide +kernel) ?_
    refine v_if_eq C 130 120 rfl (by decide +kernel) (fun h44 => ?_) (fun h44 => ?_)
    · have hf := ite2_t hf h44
      obtain ⟨z45, hz45, hf⟩ := bnd_e hf
      refine v_iinc C 7 (1) 7 z45 rfl (by rw [hz45]; rfl) [(7, .int z45), (0, .ref (G.1 + a0)), (1, .int x1), (2, .int x2), (3, .int x3), (4, .int x4), (5, .int x5), (6, .int x6), (8, .int x8), (9, .int x9)] (by decide) rfl 133 rfl (by decide +kernel) ?_
      refine v_goto C 66 (by decide +kernel) ?_
      refine v_sub [1, 2, 3, 4, 5, 6, 7, 0] rfl ?_
      exact hkh66 σ a0 x1 x2 x3 x4 x5 x6 z45 hk_a0 hf
    · have hf := ite2_f hf h44
      refine v_iload C 6 6 rfl 122 rfl (by decide +kernel) ?_
      refine v_iconst C (-1) (-1) (by decide) 123 rfl (by decide +kernel) ?_
      refine v_icmp_ne C 130 126 rfl (by decide +kernel) (fun h46 => ?_) (fun h46 => ?_)
      · have hf := ite2_f hf h46
        obtain ⟨z47, hz47, hf⟩ := bnd_e hf
        refine v_iinc C 7 (1) 7 z47 rfl (by rw [hz47]; rfl) [(7, .int z47), (0, .ref (G.1 + a0)), (1, .int x1), (2, .int x2), (3, .int x3), (4, .int x4), (5, .int x5), (6, .int x6), (8, .int x8), (9, .int x9)] (by decide) rfl 133 rfl (by decide +kernel) ?_
        refine v_goto C 66 (by decide +kernel) ?_
        refine v_sub [1, 2, 3, 4, 5, 6, 7, 0] rfl ?_
        exact hkh66 σ a0 x1 x2 x3 x4 x5 x6 z47 hk_a0 hf
      · have hf := ite2_t hf h46
        refine v_iload C 7 7 rfl 128 rfl (by decide +kernel) ?_
        refine v_istore C 6 [(6, .int x7), (0, .ref (G.1 + a0)), (1, .int x1), (2, .int x2), (3, .int x3), (4, .int x4), (5, .int x5), (7, .int x7), (8, .int x8), (9, .int x9)] (by decide) rfl 130 rfl (by decide +kernel) ?_
        obtain ⟨z48, hz48, hf⟩ := bnd_e hf
        refine v_iinc C 7 (1) 7 z48 rfl (by rw [hz48]; rfl) [(7, .int z48), (6, .int x7), (0, .ref (G.1 + a0)), (1, .int x1), (2, .int x2), (3, .int x3), (4, .int x4), (5, .int x5), (8, .int x8), (9, .int x9)] (by decide) rfl 133 rfl (by decide +kernel) ?_
        refine v_goto C 66 (by decide +kernel) ?_
        refine v_sub [2, 3, 4, 5, 6, 7, 1, 0] rfl ?_
        exact hkh66 σ a0 x1 x2 x3 x4 x5 x7 z48 hk_a0 hf
theorem t_M_roped_107 (G : ns_G) (l : Launch) {p : Program} {e : Env} {s : State} {m : MethodId} {args : Array Value} {below : List Frame} {meth : Method} {c : Code} (C : ns_Cx G p s m args meth c prog_11_method_57_code "NinthStepModel" 10) (hr : meth.sig.returnType = (some .int)) {r : Int32} {σ' : ns_St} {kh66 : ns_St → Nat → Int32 → Int32 → Int32 → Int32 → Int32 → Int32 → Int32 → Option (Int32 × ns_St)} (hkh66 : ∀ (σ : ns_St) (a0 : Nat) (x1 : Int32) (x2 : Int32) (x3 : Int32) (x4 : Int32) (x5 : Int32) (x6 : Int32) (x7 : Int32), ns_kd a0 = 9 → kh66 σ a0 x1 x2 x3 x4 x5 x6 x7 = some (r, σ') → VV G p l e { frames := 4, cells := 0, slots := 0, locals := 88 } s m args below meth c 10 0 0 (MQ below (ns_Qc G (some (.int r)) ns_N σ') args s 0 0 (ns_A G)) ns_N σ 66 [(0, .ref (G.1 + a0)), (1, .int x1), (2, .int x2), (3, .int x3), (4, .int x4), (5, .int x5), (6, .int x6), (7, .int x7)] []) (σ : ns_St) (a0 : Nat) (x1 : Int32) (x2 : Int32) (x3 : Int32) (x4 : Int32) (x5 : Int32) (x6 : Int32) (x7 : Int32) (x8 : Int32) (x9 : Int32) (hk_a0 : ns_kd a0 = 9) (hf : g_M_roped_107 kh66 σ a0 x1 x2 x3 x4 x5 x6 x7 x8 x9 = some (r, σ')) : VV G p l e { frames := 4, cells := 0, slots := 0, locals := 88 } s m args below meth c 10 0 0 (MQ below (ns_Qc G (some (.int r)) ns_N σ') args s 0 0 (ns_A G)) ns_N σ 107 [(0, .ref (G.1 + a0)), (1, .int x1), (2, .int x2), (3, .int x3), (4, .int x4), (5, .int x5), (6, .int x6), (7, .int x7), (8, .int x8), (9, .int x9)] [] := by
  unfold g_M_roped_107 at hf
  obtain ⟨z49, hz49, hf⟩ := bnd_e hf
  refine v_iinc C 5 (1) 5 z49 rfl (by rw [hz49]; rfl) [(5, .int z49), (0, .ref (G.1 + a0)), (1, .int x1), (2, .int x2), (3, .int x3), (4, .int x4), (6, .int x6), (7, .int x7), (8, .int x8), (9, .int x9)] (by decide) rfl 110 rfl (by decide +kernel) ?_
  refine v_sub [1, 2, 3, 4, 5, 0, 6, 7, 8, 9] rfl ?_
  exact t_M_roped_110 G l C hr hkh66 σ a0 x1 x2 x3 x4 z49 x6 x7 x8 x9 hk_a0 hf
theorem t_M_roped_66 (G : ns_G) (l : Launch) {p : Program} {e : Env} {s : State} {m : MethodId} {args : Array Value} {below : List Frame} {meth : Method} {c : Code} (C : ns_Cx G p s m args meth c prog_11_method_57_code "NinthStepModel" 10) (hr : meth.sig.returnType = (some .int)) {r : Int32} {σ' : ns_St}  : ∀ (f : Nat) (σ : ns_St) (a0 : Nat) (x1 : Int32) (x2 : Int32) (x3 : Int32) (x4 : Int32) (x5 : Int32) (x6 : Int32) (x7 : Int32) (hk_a0 : ns_kd a0 = 9), g_M_roped_66 f σ a0 x1 x2 x3 x4 x5 x6 x7 = some (r, σ') → VV G p l e { frames := 4, cells := 0, slots := 0, locals := 88 } s m args below meth c 10 0 0 (MQ below (ns_Qc G (some (.int r)) ns_N σ') args s 0 0 (ns_A G)) ns_N σ 66 [(0, .ref (G.1 + a0)), (1, .int x1), (2, .int x2), (3, .int x3), (4, .int x4), (5, .int x5), (6, .int x6), (7, .int x7)] [] := by
  intro f
  induction f with
  | zero =>
    intro σ a0 x1 x2 x3 x4 x5 x6 x7 hk_a0 hf
    cases hf
  | succ f ih =>
    intro σ a0 x1 x2 x3 x4 x5 x6 x7 hk_a0 hf
    rw [g_M_roped_66] at hf
    refine v_iload C 7 7 rfl 68 rfl (by decide +kernel) ?_
    refine v_aload_n C 0 0 rfl 69 rfl (by decide +kernel) ?_
    refine v_getI C 9 3 rfl nin_9 (ns_kd_lt hk_a0 (by decide)) hk_a0 (by decide) (by decide) rfl 59 tw_978 rfl 72 rfl (by decide +kernel) ?_
    refine v_icmp_gt C 136 75 rfl (by decide +kernel) (fun h50 => ?_) (fun h50 => ?_)
    · have hf := ite2_t hf h50
      refine v_iload_n C 3 3 rfl 137 rfl (by decide +kernel) ?_
      refine v_if_ne C 145 140 rfl (by decide +kernel) (fun h51 => ?_) (fun h51 => ?_)
      · have hf := ite2_f hf h51
        refine v_iload C 6 6 rfl 147 rfl (by decide +kernel) ?_
        obtain ⟨rfl, rfl⟩ := ret_e hf
        exact v_iret C hr (by decide +kernel)
      · have hf := ite2_t hf h51
        refine v_iload C 5 5 rfl 142 rfl (by decide +kernel) ?_
        refine v_goto C 147 (by decide +kernel) ?_
        obtain ⟨rfl, rfl⟩ := ret_e hf
        exact v_iret C hr (by decide +kernel)
    · have hf := ite2_f hf h50
      refine v_aload_n C 0 0 rfl 76 rfl (by decide +kernel) ?_
      refine v_iload_n C 1 1 rfl 77 rfl (by decide +kernel) ?_
      refine v_iload C 4 4 rfl 79 rfl (by decide +kernel) ?_
      refine v_iload C 7 7 rfl 81 rfl (by decide +kernel) ?_
      obtain ⟨r53, σ52, hcr53, hf⟩ := cl2_e hf
      refine v_cV C 9 rfl (ns_kd_lt hk_a0 (by decide)) hk_a0 (by decide) [.int x1, .int x4, .int x7] [] (c_M_stopsAt G l σ a0 x1 x4 x7 hcr53) 234 3 tw_1308 tw_1305 tw_1307 ts_100 tw_10 hd_M_stopsAt rfl ⟨(Nat.le_of_ble_eq_true rfl), (Nat.le_of_ble_eq_true rfl)⟩ ⟨(Nat.le_of_ble_eq_true rfl), (Nat.le_of_ble_eq_true rfl)⟩ (Nat.le_of_ble_eq_true rfl) rfl 84 rfl (by decide +kernel) [.int r53] rfl ?_
      refine v_istore C 8 [(8, .int r53), (0, .ref (G.1 + a0)), (1, .int x1), (2, .int x2), (3, .int x3), (4, .int x4), (5, .int x5), (6, .int x6), (7, .int x7)] (by decide) rfl 86 rfl (by decide +kernel) ?_
      refine v_aload_n C 0 1 rfl 87 rfl (by decide +kernel) ?_
      refine v_iload_n C 2 3 rfl 88 rfl (by decide +kernel) ?_
      refine v_iload C 4 5 rfl 90 rfl (by decide +kernel) ?_
      refine v_iload C 7 8 rfl 92 rfl (by decide +kernel) ?_
      obtain ⟨r55, σ54, hcr55, hf⟩ := cl2_e hf
      refine v_cV C 9 rfl (ns_kd_lt hk_a0 (by decide)) hk_a0 (by decide) [.int x2, .int x4, .int x7] [] (c_M_stopsAt G l σ52 a0 x2 x4 x7 hcr55) 234 3 tw_1308 tw_1305 tw_1307 ts_100 tw_10 hd_M_stopsAt rfl ⟨(Nat.le_of_ble_eq_true rfl), (Nat.le_of_ble_eq_true rfl)⟩ ⟨(Nat.le_of_ble_eq_true rfl), (Nat.le_of_ble_eq_true rfl)⟩ (Nat.le_of_ble_eq_true rfl) rfl 95 rfl (by decide +kernel) [.int r55] rfl ?_
      refine v_istore C 9 [(9, .int r55), (8, .int r53), (0, .ref (G.1 + a0)), (1, .int x1), (2, .int x2), (3, .int x3), (4, .int x4), (5, .int x5), (6, .int x6), (7, .int x7)] (by decide) rfl 97 rfl (by decide +kernel) ?_
      refine v_iload C 8 1 rfl 99 rfl (by decide +kernel) ?_
      refine v_if_ne C 107 102 rfl (by decide +kernel) (fun h56 => ?_) (fun h56 => ?_)
      · have hf := ite2_f hf h56
        refine v_sub [2, 3, 4, 5, 6, 7, 8, 9, 1, 0] rfl ?_
        exact t_M_roped_107 G l C hr ih σ54 a0 x1 x2 x3 x4 x5 x6 x7 r53 r55 hk_a0 hf
      · have hf := ite2_t hf h56
        refine v_iload C 9 0 rfl 104 rfl (by decide +kernel) ?_
        refine v_if_eq C 110 107 rfl (by decide +kernel) (fun h57 => ?_) (fun h57 => ?_)
        · have hf := ite2_t hf h57
          refine v_sub [2, 3, 4, 5, 6, 7, 8, 9, 1, 0] rfl ?_
          exact t_M_roped_110 G l C hr ih σ54 a0 x1 x2 x3 x4 x5 x6 x7 r53 r55 hk_a0 hf
        · have hf := ite2_f hf h57
          refine v_sub [2, 3, 4, 5, 6, 7, 8, 9, 1, 0] rfl ?_
          exact t_M_roped_107 G l C hr ih σ54 a0 x1 x2 x3 x4 x5 x6 x7 r53 r55 hk_a0 hf
theorem c_M_roped (G : ns_G) (l : Launch) (σ : ns_St) (a0 : Nat) (x1 : Int32) (x2 : Int32) (x3 : Int32) {r : Int32} {σ' : ns_St} (hf : g_M_roped σ a0 x1 x2 x3 = some (r, σ')) : ns_ok G l ⟨"NinthStepModel", "roped", "(III)I"⟩ prog_11_method_57_code 10 (some .int) 4 88 0 0 [.ref (G.1 + a0), .int x1, .int x2, .int x3] ns_N σ (some (.int r)) ns_N σ' := by
  refine v_open (by decide) (Nat.le_of_ble_eq_true rfl) rfl ?_
  intro p e s m below meth c C hr _
  have C : ns_Cx G p s m _ meth c prog_11_method_57_code "NinthStepModel" 10 := C
  unfold g_M_roped at hf
  obtain ⟨hk_a0, hf⟩ := grd_e hf
  refine v_aload_n C 0 0 rfl 1 rfl (by decide +kernel) ?_
  refine v_iload_n C 1 1 rfl 2 rfl (by decide +kernel) ?_
  obtain ⟨r59, σ58, hcr59, hf⟩ := cl2_e hf
  refine v_cV C 9 rfl (ns_kd_lt hk_a0 (by decide)) hk_a0 (by decide) [.int x1] [] (c_M_isMule G l σ a0 x1 hcr59) 84 1 tw_1111 tw_1108 tw_1110 ts_76 tw_10 hd_M_isMule rfl ⟨(Nat.le_of_ble_eq_true rfl), (Nat.le_of_ble_eq_true rfl)⟩ ⟨(Nat.le_of_ble_eq_true rfl), (Nat.le_of_ble_eq_true rfl)⟩ (Nat.le_of_ble_eq_true rfl) rfl 5 rfl (by decide +kernel) [.int r59] rfl ?_
  refine v_if_eq C 30 8 rfl (by decide +kernel) (fun h60 => ?_) (fun h60 => ?_)
  · have hf := ite2_t hf h60
    refine v_aload_n C 0 0 rfl 31 rfl (by decide +kernel) ?_
    refine v_bipush C (-2) (-2) (by decide) 33 rfl (by decide +kernel) ?_
    obtain ⟨r62, σ61, hcr62, hf⟩ := cl2_e hf
    refine v_cV C 9 rfl (ns_kd_lt hk_a0 (by decide)) hk_a0 (by decide) [.int (-2 : Int32)] [] (c_M_no G l σ58 a0 (-2 : Int32) hcr62) 73 1 tw_1079 tw_1076 tw_1078 ts_73 tw_10 hd_M_no rfl ⟨(Nat.le_of_ble_eq_true rfl), (Nat.le_of_ble_eq_true rfl)⟩ ⟨(Nat.le_of_ble_eq_true rfl), (Nat.le_of_ble_eq_true rfl)⟩ (Nat.le_of_ble_eq_true rfl) rfl 36 rfl (by decide +kernel) [.int r62] rfl ?_
    obtain ⟨rfl, rfl⟩ := ret_e hf
    exact v_iret C hr (by decide +kernel)
  · have hf := ite2_f hf h60
    refine v_aload_n C 0 0 rfl 9 rfl (by decide +kernel) ?_
    refine v_iload_n C 2 2 rfl 10 rfl (by decide +kernel) ?_
    obtain ⟨r64, σ63, hcr64, hf⟩ := cl2_e hf
    refine v_cV C 9 rfl (ns_kd_lt hk_a0 (by decide)) hk_a0 (by decide) [.int x2] [] (c_M_isMule G l σ58 a0 x2 hcr64) 84 1 tw_1111 tw_1108 tw_1110 ts_76 tw_10 hd_M_isMule rfl ⟨(Nat.le_of_ble_eq_true rfl), (Nat.le_of_ble_eq_true rfl)⟩ ⟨(Nat.le_of_ble_eq_true rfl), (Nat.le_of_ble_eq_true rfl)⟩ (Nat.le_of_ble_eq_true rfl) rfl 13 rfl (by decide +kernel) [.int r64] rfl ?_
    refine v_if_eq C 30 16 rfl (by decide +kernel) (fun h65 => ?_) (fun h65 => ?_)
    · have hf := ite2_t hf h65
      refine v_aload_n C 0 0 rfl 31 rfl (by decide +kernel) ?_
      refine v_bipush C (-2) (-2) (by decide) 33 rfl (by decide +kernel) ?_
      obtain ⟨r67, σ66, hcr67, hf⟩ := cl2_e hf
      refine v_cV C 9 rfl (ns_kd_lt hk_a0 (by decide)) hk_a0 (by decide) [.int (-2 : Int32)] [] (c_M_no G l σ63 a0 (-2 : Int32) hcr67) 73 1 tw_1079 tw_1076 tw_1078 ts_73 tw_10 hd_M_no rfl ⟨(Nat.le_of_ble_eq_true rfl), (Nat.le_of_ble_eq_true rfl)⟩ ⟨(Nat.le_of_ble_eq_true rfl), (Nat.le_of_ble_eq_true rfl)⟩ (Nat.le_of_ble_eq_true rfl) rfl 36 rfl (by decide +kernel) [.int r67] rfl ?_
      obtain ⟨rfl, rfl⟩ := ret_e hf
      exact v_iret C hr (by decide +kernel)
    · have hf := ite2_f hf h65
      refine v_iload_n C 1 1 rfl 17 rfl (by decide +kernel) ?_
      refine v_iload_n C 2 2 rfl 18 rfl (by decide +kernel) ?_
      refine v_icmp_eq C 30 21 rfl (by decide +kernel) (fun h68 => ?_) (fun h68 => ?_)
      · have hf := ite2_t hf h68
        refine v_aload_n C 0 0 rfl 31 rfl (by decide +kernel) ?_
        refine v_bipush C (-2) (-2) (by decide) 33 rfl (by decide +kernel) ?_
        obtain ⟨r70, σ69, hcr70, hf⟩ := cl2_e hf
        refine v_cV C 9 rfl (ns_kd_lt hk_a0 (by decide)) hk_a0 (by decide) [.int (-2 : Int32)] [] (c_M_no G l σ63 a0 (-2 : Int32) hcr70) 73 1 tw_1079 tw_1076 tw_1078 ts_73 tw_10 hd_M_no rfl ⟨(Nat.le_of_ble_eq_true rfl), (Nat.le_of_ble_eq_true rfl)⟩ ⟨(Nat.le_of_ble_eq_true rfl), (Nat.le_of_ble_eq_true rfl)⟩ (Nat.le_of_ble_eq_true rfl) rfl 36 rfl (by decide +kernel) [.int r70] rfl ?_
        obtain ⟨rfl, rfl⟩ := ret_e hf
        exact v_iret C hr (by decide +kernel)
      · have hf := ite2_f hf h68
        refine v_iload_n C 3 3 rfl 22 rfl (by decide +kernel) ?_
        refine v_iconst C (0) (0) (by decide) 23 rfl (by decide +kernel) ?_
        refine v_iconst C (1) (1) (by decide) 24 rfl (by decide +kernel) ?_
        obtain ⟨r72, σ71, hcr72, hf⟩ := cl2_e hf
        refine v_cS C [.int x3, .int (0 : Int32), .int (1 : Int32)] [] (c_M_within G l σ63 x3 (0 : Int32) (1 : Int32) hcr72) 69 3 tw_1075 tw_1073 tw_1074 tw_10 hd_M_within rfl ⟨(Nat.le_of_ble_eq_true rfl), (Nat.le_of_ble_eq_true rfl)⟩ ⟨(Nat.le_of_ble_eq_true rfl), (Nat.le_of_ble_eq_true rfl)⟩ (Nat.le_of_ble_eq_true rfl) rfl 27 rfl (by decide +kernel) [.int r72] rfl ?_
        refine v_if_ne C 37 30 rfl (by decide +kernel) (fun h73 => ?_) (fun h73 => ?_)
        · have hf := ite2_f hf h73
          refine v_aload_n C 0 0 rfl 38 rfl (by decide +kernel) ?_
          obtain ⟨b74, hb74, hf⟩ := drf_e hf
          obtain ⟨hk_b74, hf⟩ := grd_e hf
          refine v_getR C 9 8 hb74 rfl nin_9 (ns_kd_lt hk_a0 (by decide)) hk_a0 (by decide) (by decide) rfl 29 tw_983 rfl 41 rfl (by decide +kernel) ?_
          refine v_iload_n C 1 1 rfl 42 rfl (by decide +kernel) ?_
          obtain ⟨hi75, hf⟩ := grd_e hf
          refine v_iald C (ns_kd_lt hk_b74 (by decide)) hk_b74 hi75 43 rfl (by decide +kernel) ?_
          refine v_aload_n C 0 0 rfl 44 rfl (by decide +kernel) ?_
          obtain ⟨b76, hb76, hf⟩ := drf_e hf
          obtain ⟨hk_b76, hf⟩ := grd_e hf
          refine v_getR C 9 8 hb76 rfl nin_9 (ns_kd_lt hk_a0 (by decide)) hk_a0 (by decide) (by decide) rfl 29 tw_983 rfl 47 rfl (by decide +kernel) ?_
          refine v_iload_n C 2 2 rfl 48 rfl (by decide +kernel) ?_
          obtain ⟨hi77, hf⟩ := grd_e hf
          refine v_iald C (ns_kd_lt hk_b76 (by decide)) hk_b76 hi77 49 rfl (by decide +kernel) ?_
          obtain ⟨r79, σ78, hcr79, hf⟩ := cl2_e hf
          refine v_cS C [.int (σ71.1 b74 (ns_ix x1)), .int (σ71.1 b76 (ns_ix x2))] [] (c_Math_max G l σ71 (σ71.1 b74 (ns_ix x1)) (σ71.1 b76 (ns_ix x2)) hcr79) 231 2 tw_598 tw_1304 tw_597 tw_18 hd_Math_max rfl ⟨(Nat.le_of_ble_eq_true rfl), (Nat.le_of_ble_eq_true rfl)⟩ ⟨(Nat.le_of_ble_eq_true rfl), (Nat.le_of_ble_eq_true rfl)⟩ (Nat.le_of_ble_eq_true rfl) rfl 52 rfl (by decide +kernel) [.int r79] rfl ?_
          refine v_istore C 4 [(4, .int r79), (0, .ref (G.1 + a0)), (1, .int x1), (2, .int x2), (3, .int x3)] (by decide) rfl 54 rfl (by decide +kernel) ?_
          refine v_iconst C (0) (0) (by decide) 55 rfl (by decide +kernel) ?_
          refine v_istore C 5 [(5, .int (0 : Int32)), (4, .int r79), (0, .ref (G.1 + a0)), (1, .int x1), (2, .int x2), (3, .int x3)] (by decide) rfl 57 rfl (by decide +kernel) ?_
          refine v_iconst C (-1) (-1) (by decide) 58 rfl (by decide +kernel) ?_
          refine v_istore C 6 [(6, .int (-1 : Int32)), (5, .int (0 : Int32)), (4, .int r79), (0, .ref (G.1 + a0)), (1, .int x1), (2, .int x2), (3, .int x3)] (by decide) rfl 60 rfl (by decide +kernel) ?_
          refine v_iload C 4 2 rfl 62 rfl (by decide +kernel) ?_
          refine v_iconst C (1) (1) (by decide) 63 rfl (by decide +kernel) ?_
          refine v_iadd C 64 rfl (by decide +kernel) ?_
          obtain ⟨z80, hz80, hf⟩ := bnd_e hf
          refine v_nmI hz80 ?_
          refine v_istore C 7 [(7, .int z80), (6, .int (-1 : Int32)), (5, .int (0 : Int32)), (4, .int r79), (0, .ref (G.1 + a0)), (1, .int x1), (2, .int x2), (3, .int x3)] (by decide) rfl 66 rfl (by decide +kernel) ?_
          refine v_sub [4, 5, 6, 7, 3, 2, 1, 0] rfl ?_
          exact t_M_roped_66 G l C hr  ns_F σ78 a0 x1 x2 x3 r79 (0 : Int32) (-1 : Int32) z80 hk_a0 hf
        · have hf := ite2_t hf h73
          refine v_aload_n C 0 0 rfl 31 rfl (by decide +kernel) ?_
          refine v_bipush C (-2) (-2) (by decide) 33 rfl (by decide +kernel) ?_
          obtain ⟨r82, σ81, hcr82, hf⟩ := cl2_e hf
          refine v_cV C 9 rfl (ns_kd_lt hk_a0 (by decide)) hk_a0 (by decide) [.int (-2 : Int32)] [] (c_M_no G l σ71 a0 (-2 : Int32) hcr82) 73 1 tw_1079 tw_1076 tw_1078 ts_73 tw_10 hd_M_no rfl ⟨(Nat.le_of_ble_eq_true rfl), (Nat.le_of_ble_eq_true rfl)⟩ ⟨(Nat.le_of_ble_eq_true rfl), (Nat.le_of_ble_eq_true rfl)⟩ (Nat.le_of_ble_eq_true rfl) rfl 36 rfl (by decide +kernel) [.int r82] rfl ?_
          obtain ⟨rfl, rfl⟩ := ret_e hf
          exact v_iret C hr (by decide +kernel)
theorem hd_M_roped : (⟨"NinthStepModel", "roped", "(III)I"⟩ : MethodName).cls = "NinthStepModel" ∧ (⟨"NinthStepModel", "roped", "(III)I"⟩ : MethodName).cls ≠ "java/lang/invoke/MethodHandle" ∧ (⟨"NinthStepModel", "roped", "(III)I"⟩ : MethodName).cls ≠ "java/lang/invoke/VarHandle" ∧ (parseMethodDescriptor (⟨"NinthStepModel", "roped", "(III)I"⟩ : MethodName).desc).map (fun d => d.parameters.length) = some 3 := by decide +kernel
def g_M_meets_30  : Nat → ns_St → Nat → Int32 → Int32 → Int32 → Option (Int32 × ns_St)
  | 0, _, _, _, _, _ => none
  | f + 1, σ, a0, x1, x2, x3 => ite2 ((401 : Int32) ≤ x3) (some ((-1 : Int32), σ)) (cl2 (g_M_afterAll σ a0 x1 x3) fun r23 σ22 => cl2 (g_M_afterAll σ22 a0 x2 x3) fun r25 σ24 => ite2 (r23 = r25) (some (x3, σ24)) (bnd (x3 + 1) fun z27 => (g_M_meets_30 f) σ24 a0 x1 x2 z27))
def g_M_meets (σ : ns_St) (a0 : Nat) (x1 : Int32) (x2 : Int32) : Option (Int32 × ns_St) := grd (ns_kd a0 = 9) <| cl2 (g_M_isMule σ a0 x1) fun r29 σ28 => ite2 (r29 = 0) (cl2 (g_M_no σ28 a0 (-2 : Int32)) fun r32 σ31 => some (r32, σ31)) (cl2 (g_M_isMule σ28 a0 x2) fun r34 σ33 => ite2 (r34 = 0) (cl2 (g_M_no σ33 a0 (-2 : Int32)) fun r37 σ36 => some (r37, σ36)) (ite2 (x1 = x2) (cl2 (g_M_no σ33 a0 (-2 : Int32)) fun r40 σ39 => some (r40, σ39)) (g_M_meets_30 ns_F σ33 a0 x1 x2 (0 : Int32))))
theorem t_M_meets_30 (G : ns_G) (l : Launch) {p : Program} {e : Env} {s : State} {m : MethodId} {args : Array Value} {below : List Frame} {meth : Method} {c : Code} (C : ns_Cx G p s m args meth c prog_11_method_58_code "NinthStepModel" 4) (hr : meth.sig.returnType = (some .int)) {r : Int32} {σ' : ns_St}  : ∀ (f : Nat) (σ : ns_St) (a0 : Nat) (x1 : Int32) (x2 : Int32) (x3 : Int32) (hk_a0 : ns_kd a0 = 9), g_M_meets_30 f σ a0 x1 x2 x3 = some (r, σ') → VV G p l e { frames := 4, cells := 0, slots := 0, locals := 87 } s m args below meth c 4 0 0 (MQ below (ns_Qc G (some (.int r)) ns_N σ') args s 0 0 (ns_A G)) ns_N σ 30 [(0, .ref (G.1 + a0)), (1, .int x1), (2, .int x2), (3, .int x3)] [] := by
  intro f
  induction f with
  | zero =>
    intro σ a0 x1 x2 x3 hk_a0 hf
    cases hf
  | succ f ih =>
    intro σ a0 x1 x2 x3 hk_a0 hf
    rw [g_M_meets_30] at hf
    refine v_iload_n C 3 3 rfl 31 rfl (by decide +kernel) ?_
    refine v_sipush C (401) (401) (by decide) 34 rfl (by decide +kernel) ?_
    refine v_icmp_ge C 60 37 rfl (by decide +kernel) (fun h21 => ?_) (fun h21 => ?_)
    · have hf := ite2_t hf h21
      refine v_iconst C (-1) (-1) (by decide) 61 rfl (by decide +kernel) ?_
      obtain ⟨rfl, rfl⟩ := ret_e hf
      exact v_iret C hr (by decide +kernel)
    · have hf := ite2_f hf h21
      refine v_aload_n C 0 0 rfl 38 rfl (by decide +kernel) ?_
      refine v_iload_n C 1 1 rfl 39 rfl (by decide +kernel) ?_
      refine v_iload_n C 3 3 rfl 40 rfl (by decide +kernel) ?_
      obtain ⟨r23, σ22, hcr23, hf⟩ := cl2_e hf
      refine v_cV C 9 rfl (ns_kd_lt hk_a0 (by decide)) hk_a0 (by decide) [.int x1, .int x3] [] (c_M_afterAll G l σ a0 x1 x3 hcr23) 215 2 tw_1267 tw_1264 tw_1266 ts_95 tw_10 hd_M_afterAll rfl ⟨(Nat.le_of_ble_eq_true rfl), (Nat.le_of_ble_eq_true rfl)⟩ ⟨(Nat.le_of_ble_eq_true rfl), (Nat.le_of_ble_eq_true rfl)⟩ (Nat.le_of_ble_eq_true rfl) rfl 43 rfl (by decide +kernel) [.int r23] rfl ?_
      refine v_aload_n C 0 0 rfl 44 rfl (by decide +kernel) ?_
      refine v_iload_n C 2 2 rfl 45 rfl (by decide +kernel) ?_
      refine v_iload_n C 3 3 rfl 46 rfl (by decide +kernel) ?_
      obtain ⟨r25, σ24, hcr25, hf⟩ := cl2_e hf
      refine v_cV C 9 rfl (ns_kd_lt hk_a0 (by decide)) hk_a0 (by decide) [.int x2, .int x3] [.int r23] (c_M_afterAll G l σ22 a0 x2 x3 hcr25) 215 2 tw_1267 tw_1264 tw_1266 ts_95 tw_10 hd_M_afterAll rfl ⟨(Nat.le_of_ble_eq_true rfl), (Nat.le_of_ble_eq_true rfl)⟩ ⟨(Nat.le_of_ble_eq_true rfl), (Nat.le_of_ble_eq_true rfl)⟩ (Nat.le_of_ble_eq_true rfl) rfl 49 rfl (by decide +kernel) [.int r25, .int r23] rfl ?_
      refine v_icmp_ne C 54 52 rfl (by decide +kernel) (fun h26 => ?_) (fun h26 => ?_)
      · have hf := ite2_f hf h26
        obtain ⟨z27, hz27, hf⟩ := bnd_e hf
        refine v_iinc C 3 (1) 3 z27 rfl (by rw [hz27]; rfl) [(3, .int z27), (0, .ref (G.1 + a0)), (1, .int x1), (2, .int x2)] (by decide) rfl 57 rfl (by decide +kernel) ?_
        refine v_goto C 30 (by decide +kernel) ?_
        refine v_sub [1, 2, 3, 0] rfl ?_
        exact ih σ24 a0 x1 x2 z27 hk_a0 hf
      · have hf := ite2_t hf h26
        refine v_iload_n C 3 3 rfl 53 rfl (by decide +kernel) ?_
        obtain ⟨rfl, rfl⟩ := ret_e hf
        exact v_iret C hr (by decide +kernel)
theorem c_M_meets (G : ns_G) (l : Launch) (σ : ns_St) (a0 : Nat) (x1 : Int32) (x2 : Int32) {r : Int32} {σ' : ns_St} (hf : g_M_meets σ a0 x1 x2 = some (r, σ')) : ns_ok G l ⟨"NinthStepModel", "meets", "(II)I"⟩ prog_11_method_58_code 4 (some .int) 4 87 0 0 [.ref (G.1 + a0), .int x1, .int x2] ns_N σ (some (.int r)) ns_N σ' := by
  refine v_open (by decide) (Nat.le_of_ble_eq_true rfl) rfl ?_
  intro p e s m below meth c C hr _
  have C : ns_Cx G p s m _ meth c prog_11_method_58_code "NinthStepModel" 4 := C
  unfold g_M_meets at hf
  obtain ⟨hk_a0, hf⟩ := grd_e hf
  refine v_aload_n C 0 0 rfl 1 rfl (by decide +kernel) ?_
  refine v_iload_n C 1 1 rfl 2 rfl (by decide +kernel) ?_
  obtain ⟨r29, σ28, hcr29, hf⟩ := cl2_e hf
  refine v_cV C 9 rfl (ns_kd_lt hk_a0 (by decide)) hk_a0 (by decide) [.int x1] [] (c_M_isMule G l σ a0 x1 hcr29) 84 1 tw_1111 tw_1108 tw_1110 ts_76 tw_10 hd_M_isMule rfl ⟨(Nat.le_of_ble_eq_true rfl), (Nat.le_of_ble_eq_true rfl)⟩ ⟨(Nat.le_of_ble_eq_true rfl), (Nat.le_of_ble_eq_true rfl)⟩ (Nat.le_of_ble_eq_true rfl) rfl 5 rfl (by decide +kernel) [.int r29] rfl ?_
  refine v_if_eq C 21 8 rfl (by decide +kernel) (fun h30 => ?_) (fun h30 => ?_)
  · have hf := ite2_t hf h30
    refine v_aload_n C 0 0 rfl 22 rfl (by decide +kernel) ?_
    refine v_bipush C (-2) (-2) (by decide) 24 rfl (by decide +kernel) ?_
    obtain ⟨r32, σ31, hcr32, hf⟩ := cl2_e hf
    refine v_cV C 9 rfl (ns_kd_lt hk_a0 (by decide)) hk_a0 (by decide) [.int (-2 : Int32)] [] (c_M_no G l σ28 a0 (-2 : Int32) hcr32) 73 1 tw_1079 tw_1076 tw_1078 ts_73 tw_10 hd_M_no rfl ⟨(Nat.le_of_ble_eq_true rfl), (Nat.le_of_ble_eq_true rfl)⟩ ⟨(Nat.le_of_ble_eq_true rfl), (Nat.le_of_ble_eq_true rfl)⟩ (Nat.le_of_ble_eq_true rfl) rfl 27 rfl (by decide +kernel) [.int r32] rfl ?_
    obtain ⟨rfl, rfl⟩ := ret_e hf
    exact v_iret C hr (by decide +kernel)
  · have hf := ite2_f hf h30
    refine v_aload_n C 0 0 rfl 9 rfl (by decide +kernel) ?_
    refine v_iload_n C 2 2 rfl 10 rfl (by decide +kernel) ?_
    obtain ⟨r34, σ33, hcr34, hf⟩ := cl2_e hf
    refine v_cV C 9 rfl (ns_kd_lt hk_a0 (by decide)) hk_a0 (by decide) [.int x2] [] (c_M_isMule G l σ28 a0 x2 hcr34) 84 1 tw_1111 tw_1108 tw_1110 ts_76 tw_10 hd_M_isMule rfl ⟨(Nat.le_of_ble_eq_true rfl), (Nat.le_of_ble_eq_true rfl)⟩ ⟨(Nat.le_of_ble_eq_true rfl), (Nat.le_of_ble_eq_true rfl)⟩ (Nat.le_of_ble_eq_true rfl) rfl 13 rfl (by decide +kernel) [.int r34] rfl ?_
    refine v_if_eq C 21 16 rfl (by decide +kernel) (fun h35 => ?_) (fun h35 => ?_)
    · have hf := ite2_t hf h35
      refine v_aload_n C 0 0 rfl 22 rfl (by decide +kernel) ?_
      refine v_bipush C (-2) (-2) (by decide) 24 rfl (by decide +kernel) ?_
      obtain ⟨r37, σ36, hcr37, hf⟩ := cl2_e hf
      refine v_cV C 9 rfl (ns_kd_lt hk_a0 (by decide)) hk_a0 (by decide) [.int (-2 : Int32)] [] (c_M_no G l σ33 a0 (-2 : Int32) hcr37) 73 1 tw_1079 tw_1076 tw_1078 ts_73 tw_10 hd_M_no rfl ⟨(Nat.le_of_ble_eq_true rfl), (Nat.le_of_ble_eq_true rfl)⟩ ⟨(Nat.le_of_ble_eq_true rfl), (Nat.le_of_ble_eq_true rfl)⟩ (Nat.le_of_ble_eq_true rfl) rfl 27 rfl (by decide +kernel) [.int r37] rfl ?_
      obtain ⟨rfl, rfl⟩ := ret_e hf
      exact v_iret C hr (by decide +kernel)
    · have hf := ite2_f hf h35
      refine v_iload_n C 1 1 rfl 17 rfl (by decide +kernel) ?_
      refine v_iload_n C 2 2 rfl 18 rfl (by decide +kernel) ?_
      refine v_icmp_ne C 28 21 rfl (by decide +kernel) (fun h38 => ?_) (fun h38 => ?_)
      · have hf := ite2_f hf h38
        refine v_iconst C (0) (0) (by decide) 29 rfl (by decide +kernel) ?_
        refine v_istore_n C 3 [(3, .int (0 : Int32)), (0, .ref (G.1 + a0)), (1, .int x1), (2, .int x2)] (by decide) rfl 30 rfl (by decide +kernel) ?_
        refine v_sub [1, 2, 3, 0] rfl ?_
        exact t_M_meets_30 G l C hr  ns_F σ33 a0 x1 x2 (0 : Int32) hk_a0 hf
      · have hf := ite2_t hf h38
        refine v_aload_n C 0 0 rfl 22 rfl (by decide +kernel) ?_
        refine v_bipush C (-2) (-2) (by decide) 24 rfl (by decide +kernel) ?_
        obtain ⟨r40, σ39, hcr40, hf⟩ := cl2_e hf
        refine v_cV C 9 rfl (ns_kd_lt hk_a0 (by decide)) hk_a0 (by decide) [.int (-2 : Int32)] [] (c_M_no G l σ33 a0 (-2 : Int32) hcr40) 73 1 tw_1079 tw_1076 tw_1078 ts_73 tw_10 hd_M_no rfl ⟨(Nat.le_of_ble_eq_true rfl), (Nat.le_of_ble_eq_true rfl)⟩ ⟨(Nat.le_of_ble_eq_true rfl), (Nat.le_of_ble_eq_true rfl)⟩ (Nat.le_of_ble_eq_true rfl) rfl 27 rfl (by decide +kernel) [.int r40] rfl ?_
        obtain ⟨rfl, rfl⟩ := ret_e hf
        exact v_iret C hr (by decide +kernel)
theorem hd_M_meets : (⟨"NinthStepModel", "meets", "(II)I"⟩ : MethodName).cls = "NinthStepModel" ∧ (⟨"NinthStepModel", "meets", "(II)I"⟩ : MethodName).cls ≠ "java/lang/invoke/MethodHandle" ∧ (⟨"NinthStepModel", "meets", "(II)I"⟩ : MethodName).cls ≠ "java/lang/invoke/VarHandle" ∧ (parseMethodDescriptor (⟨"NinthStepModel", "meets", "(II)I"⟩ : MethodName).desc).map (fun d => d.parameters.length) = some 2 := by decide +kernel
def g_M_last_18  : Nat → ns_St → Nat → Int32 → Int32 → Option (Int32 × ns_St)
  | 0, _, _, _, _ => none
  | f + 1, σ, a0, x1, x2 => ite2 ((σ.1 a0 5) ≤ x2) (some (x1, σ)) (cl2 (g_M_minutesOf σ a0 x2) fun r14 σ13 => cl2 (g_M_minutesOf σ13 a0 x1) fun r16 σ15 => ite2 (r14 ≤ r16) (bnd (x2 + 1) fun z18 => (g_M_last_18 f) σ15 a0 x1 z18) (bnd (x2 + 1) fun z19 => (g_M_last_18 f) σ15 a0 x2 z19))
def g_M_last (σ : ns_St) (a0 : Nat) : Option (Int32 × ns_St) := grd (ns_kd a0 = 9) <| ite2 ((σ.1 a0 5) = 0) (cl2 (g_M_no σ a0 (-5 : Int32)) fun r22 σ21 => some (r22, σ21)) (g_M_last_18 ns_F σ a0 (0 : Int32) (1 : Int32))
theorem t_M_last_18 (G : ns_G) (l : Launch) {p : Program} {e : Env} {s : State} {m : MethodId} {args : Array Value} {below : List Frame} {meth : Method} {c : Code} (C : ns_Cx G p s m args meth c prog_11_method_59_code "NinthStepModel" 3) (hr : meth.sig.returnType = (some .int)) {r : Int32} {σ' : ns_St}  : ∀ (f : Nat) (σ : ns_St) (a0 : Nat) (x1 : Int32) (x2 : Int32) (hk_a0 : ns_kd a0 = 9), g_M_last_18 f σ a0 x1 x2 = some (r, σ') → VV G p l e { frames := 4, cells := 0, slots := 0, locals := 86 } s m args below meth c 3 0 0 (MQ below (ns_Qc G (some (.int r)) ns_N σ') args s 0 0 (ns_A G)) ns_N σ 18 [(0, .ref (G.1 + a0)), (1, .int x1), (2, .int x2)] [] := by
  intro f
  induction f with
  | zero =>
    intro σ a0 x1 x2 hk_a0 hf
    cases hf
  | succ f ih =>
    intro σ a0 x1 x2 hk_a0 hf
    rw [g_M_last_18] at hf
    refine v_iload_n C 2 2 rfl 19 rfl (by decide +kernel) ?_
    refine v_aload_n C 0 0 rfl 20 rfl (by decide +kernel) ?_
    refine v_getI C 9 5 rfl nin_9 (ns_kd_lt hk_a0 (by decide)) hk_a0 (by decide) (by decide) rfl 66 tw_980 rfl 23 rfl (by decide +kernel) ?_
    refine v_icmp_ge C 47 26 rfl (by decide +kernel) (fun h12 => ?_) (fun h12 => ?_)
    · have hf := ite2_t hf h12
      refine v_iload_n C 1 1 rfl 48 rfl (by decide +kernel) ?_
      obtain ⟨rfl, rfl⟩ := ret_e hf
      exact v_iret C hr (by decide +kernel)
    · have hf := ite2_f hf h12
      refine v_aload_n C 0 0 rfl 27 rfl (by decide +kernel) ?_
      refine v_iload_n C 2 2 rfl 28 rfl (by decide +kernel) ?_
      obtain ⟨r14, σ13, hcr14, hf⟩ := cl2_e hf
      refine v_cV C 9 rfl (ns_kd_lt hk_a0 (by decide)) hk_a0 (by decide) [.int x2] [] (c_M_minutesOf G l σ a0 x2 hcr14) 212 1 tw_1259 tw_1256 tw_1258 ts_94 tw_10 hd_M_minutesOf rfl ⟨(Nat.le_of_ble_eq_true rfl), (Nat.le_of_ble_eq_true rfl)⟩ ⟨(Nat.le_of_ble_eq_true rfl), (Nat.le_of_ble_eq_true rfl)⟩ (Nat.le_of_ble_eq_true rfl) rfl 31 rfl (by decide +kernel) [.int r14] rfl ?_
      refine v_aload_n C 0 0 rfl 32 rfl (by decide +kernel) ?_
      refine v_iload_n C 1 1 rfl 33 rfl (by decide +kernel) ?_
      obtain ⟨r16, σ15, hcr16, hf⟩ := cl2_e hf
      refine v_cV C 9 rfl (ns_kd_lt hk_a0 (by decide)) hk_a0 (by decide) [.int x1] [.int r14] (c_M_minutesOf G l σ13 a0 x1 hcr16) 212 1 tw_1259 tw_1256 tw_1258 ts_94 tw_10 hd_M_minutesOf rfl ⟨(Nat.le_of_ble_eq_true rfl), (Nat.le_of_ble_eq_true rfl)⟩ ⟨(Nat.le_of_ble_eq_true rfl), (Nat.le_of_ble_eq_true rfl)⟩ (Nat.le_of_ble_eq_true rfl) rfl 36 rfl (by decide +kernel) [.int r16, .int r14] rfl ?_
      refine v_icmp_le C 41 39 rfl (by decide +kernel) (fun h17 => ?_) (fun h17 => ?_)
      · have hf := ite2_t hf h17
        obtain ⟨z18, hz18, hf⟩ := bnd_e hf
        refine v_iinc C 2 (1) 2 z18 rfl (by rw [hz18]; rfl) [(2, .int z18), (0, .ref (G.1 + a0)), (1, .int x1)] (by decide) rfl 44 rfl (by decide +kernel) ?_
        refine v_goto C 18 (by decide +kernel) ?_
        refine v_sub [1, 2, 0] rfl ?_
        exact ih σ15 a0 x1 z18 hk_a0 hf
      · have hf := ite2_f hf h17
        refine v_iload_n C 2 2 rfl 40 rfl (by decide +kernel) ?_
        refine v_istore_n C 1 [(1, .int x2), (0, .ref (G.1 + a0)), (2, .int x2)] (by decide) rfl 41 rfl (by decide +kernel) ?_
        obtain ⟨z19, hz19, hf⟩ := bnd_e hf
        refine v_iinc C 2 (1) 2 z19 rfl (by rw [hz19]; rfl) [(2, .int z19), (1, .int x2), (0, .ref (G.1 + a0))] (by decide) rfl 44 rfl (by decide +kernel) ?_
        refine v_goto C 18 (by decide +kernel) ?_
        refine v_sub [2, 1, 0] rfl ?_
        exact ih σ15 a0 x2 z19 hk_a0 hf
theorem c_M_last (G : ns_G) (l : Launch) (σ : ns_St) (a0 : Nat) {r : Int32} {σ' : ns_St} (hf : g_M_last σ a0 = some (r, σ')) : ns_ok G l ⟨"NinthStepModel", "last", "()I"⟩ prog_11_method_59_code 3 (some .int) 4 86 0 0 [.ref (G.1 + a0)] ns_N σ (some (.int r)) ns_N σ' := by
  refine v_open (by decide) (Nat.le_of_ble_eq_true rfl) rfl ?_
  intro p e s m below meth c C hr _
  have C : ns_Cx G p s m _ meth c prog_11_method_59_code "NinthStepModel" 3 := C
  unfold g_M_last at hf
  obtain ⟨hk_a0, hf⟩ := grd_e hf
  refine v_aload_n C 0 0 rfl 1 rfl (by decide +kernel) ?_
  refine v_getI C 9 5 rfl nin_9 (ns_kd_lt hk_a0 (by decide)) hk_a0 (by decide) (by decide) rfl 66 tw_980 rfl 4 rfl (by decide +kernel) ?_
  refine v_if_ne C 14 7 rfl (by decide +kernel) (fun h20 => ?_) (fun h20 => ?_)
  · have hf := ite2_f hf h20
    refine v_iconst C (0) (0) (by decide) 15 rfl (by decide +kernel) ?_
    refine v_istore_n C 1 [(1, .int (0 : Int32)), (0, .ref (G.1 + a0))] (by decide) rfl 16 rfl (by decide +kernel) ?_
    refine v_iconst C (1) (1) (by decide) 17 rfl (by decide +kernel) ?_
    refine v_istore_n C 2 [(2, .int (1 : Int32)), (1, .int (0 : Int32)), (0, .ref (G.1 + a0))] (by decide) rfl 18 rfl (by decide +kernel) ?_
    refine v_sub [2, 1, 0] rfl ?_
    exact t_M_last_18 G l C hr  ns_F σ a0 (0 : Int32) (1 : Int32) hk_a0 hf
  · have hf := ite2_t hf h20
    refine v_aload_n C 0 0 rfl 8 rfl (by decide +kernel) ?_
    refine v_bipush C (-5) (-5) (by decide) 10 rfl (by decide +kernel) ?_
    obtain ⟨r22, σ21, hcr22, hf⟩ := cl2_e hf
    refine v_cV C 9 rfl (ns_kd_lt hk_a0 (by decide)) hk_a0 (by decide) [.int (-5 : Int32)] [] (c_M_no G l σ a0 (-5 : Int32) hcr22) 73 1 tw_1079 tw_1076 tw_1078 ts_73 tw_10 hd_M_no rfl ⟨(Nat.le_of_ble_eq_true rfl), (Nat.le_of_ble_eq_true rfl)⟩ ⟨(Nat.le_of_ble_eq_true rfl), (Nat.le_of_ble_eq_true rfl)⟩ (Nat.le_of_ble_eq_true rfl) rfl 13 rfl (by decide +kernel) [.int r22] rfl ?_
    obtain ⟨rfl, rfl⟩ := ret_e hf
    exact v_iret C hr (by decide +kernel)
theorem hd_M_last : (⟨"NinthStepModel", "last", "()I"⟩ : MethodName).cls = "NinthStepModel" ∧ (⟨"NinthStepModel", "last", "()I"⟩ : MethodName).cls ≠ "java/lang/invoke/MethodHandle" ∧ (⟨"NinthStepModel", "last", "()I"⟩ : MethodName).cls ≠ "java/lang/invoke/VarHandle" ∧ (parseMethodDescriptor (⟨"NinthStepModel", "last", "()I"⟩ : MethodName).desc).map (fun d => d.parameters.length) = some 0 := by decide +kernel
def g_M_train_181 (kh166 : ns_St → Nat → Int32 → Int32 → Int32 → Int32 → Option (Int32 × ns_St)) : Nat → ns_St → Nat → Int32 → Int32 → Int32 → Int32 → Int32 → Int32 → Option (Int32 × ns_St)
  | 0, _, _, _, _, _, _, _, _ => none
  | f + 1, σ, a0, x4, x5, x6, x7, x8, x9 => ite2 ((σ.1 a0 5) ≤ x9) (ite2 (x8 = 0) (bnd (x7 + 1) fun z56 => kh166 σ a0 x4 x5 x6 z56) (bnd (x6 + 1) fun z57 => bnd (x7 + 1) fun z58 => kh166 σ a0 x4 x5 z57 z58)) (ite2 (((x4 >>> (x9 &&& 31)) &&& (1 : Int32)) = (1 : Int32)) (cl2 (g_M_stopsAt σ a0 x9 x5 x7) fun r62 σ61 => ite2 (r62 = 0) (bnd (x9 + 1) fun z64 => (g_M_train_181 kh166 f) σ61 a0 x4 x5 x6 x7 x8 z64) (bnd (x9 + 1) fun z65 => (g_M_train_181 kh166 f) σ61 a0 x4 x5 x6 x7 (1 : Int32) z65)) (bnd (x9 + 1) fun z60 => (g_M_train_181 kh166 f) σ a0 x4 x5 x6 x7 x8 z60))
def g_M_train_166  : Nat → ns_St → Nat → Int32 → Int32 → Int32 → Int32 → Option (Int32 × ns_St)
  | 0, _, _, _, _, _, _ => none
  | f + 1, σ, a0, x4, x5, x6, x7 => ite2 ((σ.1 a0 3) < x7) (some (x6, σ)) (g_M_train_181 (g_M_train_166 f) ns_F σ a0 x4 x5 x6 x7 (0 : Int32) (0 : Int32))
def g_M_train_69  : Nat → ns_St → Nat → Int32 → Int32 → Int32 → Int32 → Int32 → Option (Int32 × ns_St)
  | 0, _, _, _, _, _, _, _ => none
  | f + 1, σ, a0, x1, x2, x4, x5, x6 => ite2 (x2 ≤ x6) (bnd (x5 + (1 : Int32)) fun z68 => g_M_train_166 ns_F σ a0 x4 x5 (0 : Int32) z68) (drf (σ.2.2 a0 2) fun b69 => grd (ns_kd b69 = 11) <| grd (ns_in (((40 : Int32) * x1) + x6) (ns_ln b69)) <| bnd (σ.2.1 b69 (ns_ix (((40 : Int32) * x1) + x6))) fun z71 => ite2 ((lg_cmp z71 (0 : Int64)) < 0) (cl2 (g_M_no σ a0 (-2 : Int32)) fun r74 σ73 => some (r74, σ73)) (ite2 (0 ≤ (lg_cmp z71 ((σ.1 a0 5).toInt64))) (cl2 (g_M_no σ a0 (-2 : Int32)) fun r77 σ76 => some (r77, σ76)) (ite2 (((x4 >>> ((z71.toInt32) &&& 31)) &&& (1 : Int32)) = (1 : Int32)) (cl2 (g_M_no σ a0 (-2 : Int32)) fun r86 σ85 => some (r86, σ85)) (bnd (x4 ||| ((1 : Int32) <<< ((z71.toInt32) &&& 31))) fun z79 => drf (σ.2.2 a0 8) fun b80 => grd (ns_kd b80 = 10) <| grd (ns_in (z71.toInt32) (ns_ln b80)) <| cl2 (g_Math_max σ x5 (σ.1 b80 (ns_ix (z71.toInt32)))) fun r83 σ82 => bnd (x6 + 1) fun z84 => (g_M_train_69 f) σ82 a0 x1 x2 z79 r83 z84))))
def g_M_train (σ : ns_St) (a0 : Nat) (x1 : Int32) (x2 : Int32) : Option (Int32 × ns_St) := grd (ns_kd a0 = 9) <| cl2 (g_M_within σ x1 (0 : Int32) (7 : Int32)) fun r88 σ87 => ite2 (r88 = 0) (cl2 (g_M_no σ87 a0 (-2 : Int32)) fun r91 σ90 => some (r91, σ90)) (cl2 (g_M_within σ87 x2 (1 : Int32) (6 : Int32)) fun r93 σ92 => ite2 (r93 = 0) (cl2 (g_M_no σ92 a0 (-2 : Int32)) fun r106 σ105 => some (r106, σ105)) (cl2 (g_M_noRow σ92 a0 x1) fun r96 σ95 => ite2 (0 ≤ r96) (drf (σ95.2.2 a0 1) fun b98 => grd (ns_kd b98 = 10) <| grd (ns_in x1 (ns_ln b98)) <| ite2 (x2 ≤ (σ95.1 b98 (ns_ix x1))) (g_M_train_69 ns_F σ95 a0 x1 x2 (0 : Int32) (0 : Int32) (0 : Int32)) (cl2 (g_M_no σ95 a0 (-2 : Int32)) fun r102 σ101 => some (r102, σ101))) (cl2 (g_M_no σ95 a0 r96) fun r104 σ103 => some (r104, σ103))))
theorem t_M_train_181 (G : ns_G) (l : Launch) {p : Program} {e : Env} {s : State} {m : MethodId} {args : Array Value} {below : List Frame} {meth : Method} {c : Code} (C : ns_Cx G p s m args meth c prog_11_method_60_code "NinthStepModel" 10) (hr : meth.sig.returnType = (some .int)) {r : Int32} {σ' : ns_St} {kh166 : ns_St → Nat → Int32 → Int32 → Int32 → Int32 → Option (Int32 × ns_St)} (hkh166 : ∀ (σ : ns_St) (a0 : Nat) (x4 : Int32) (x5 : Int32) (x6 : Int32) (x7 : Int32), ns_kd a0 = 9 → kh166 σ a0 x4 x5 x6 x7 = some (r, σ') → VV G p l e { frames := 4, cells := 0, slots := 0, locals := 88 } s m args below meth c 10 0 0 (MQ below (ns_Qc G (some (.int r)) ns_N σ') args s 0 0 (ns_A G)) ns_N σ 166 [(0, .ref (G.1 + a0)), (4, .int x4), (5, .int x5), (6, .int x6), (7, .int x7)] []) : ∀ (f : Nat) (σ : ns_St) (a0 : Nat) (x4 : Int32) (x5 : Int32) (x6 : Int32) (x7 : Int32) (x8 : Int32) (x9 : Int32) (hk_a0 : ns_kd a0 = 9), g_M_train_181 kh166 f σ a0 x4 x5 x6 x7 x8 x9 = some (r, σ') → VV G p l e { frames := 4, cells := 0, slots := 0, locals := 88 } s m args below meth c 10 0 0 (MQ below (ns_Qc G (some (.int r)) ns_N σ') args s 0 0 (ns_A G)) ns_N σ 181 [(0, .ref (G.1 + a0)), (4, .int x4), (5, .int x5), (6, .int x6), (7, .int x7), (8, .int x8), (9, .int x9)] [] := by
  intro f
  induction f with
  | zero =>
    intro σ a0 x4 x5 x6 x7 x8 x9 hk_a0 hf
    cases hf
  | succ f ih =>
    intro σ a0 x4 x5 x6 x7 x8 x9 hk_a0 hf
    rw [g_M_train_181] at hf
    refine v_iload C 9 6 rfl 183 rfl (by decide +kernel) ?_
    refine v_aload_n C 0 0 rfl 184 rfl (by decide +kernel) ?_
    refine v_getI C 9 5 rfl nin_9 (ns_kd_lt hk_a0 (by decide)) hk_a0 (by decide) (by decide) rfl 66 tw_980 rfl 187 rfl (by decide +kernel) ?_
    refine v_icmp_ge C 223 190 rfl (by decide +kernel) (fun h54 => ?_) (fun h54 => ?_)
    · have hf := ite2_t hf h54
      refine v_iload C 8 5 rfl 225 rfl (by decide +kernel) ?_
      refine v_if_eq C 231 228 rfl (by decide +kernel) (fun h55 => ?_) (fun h55 => ?_)
      · have hf := ite2_t hf h55
        obtain ⟨z56, hz56, hf⟩ := bnd_e hf
        refine v_iinc C 7 (1) 4 z56 rfl (by rw [hz56]; rfl) [(7, .int z56), (0, .ref (G.1 + a0)), (4, .int x4), (5, .int x5), (6, .int x6), (8, .int x8), (9, .int x9)] (by decide) rfl 234 rfl (by decide +kernel) ?_
        refine v_goto C 166 (by decide +kernel) ?_
        refine v_sub [1, 2, 3, 4, 0] rfl ?_
        exact hkh166 σ a0 x4 x5 x6 z56 hk_a0 hf
      · have hf := ite2_f hf h55
        obtain ⟨z57, hz57, hf⟩ := bnd_e hf
        refine v_iinc C 6 (1) 3 z57 rfl (by rw [hz57]; rfl) [(6, .int z57), (0, .ref (G.1 + a0)), (4, .int x4), (5, .int x5), (7, .int x7), (8, .int x8), (9, .int x9)] (by decide) rfl 231 rfl (by decide +kernel) ?_
        obtain ⟨z58, hz58, hf⟩ := bnd_e hf
        refine v_iinc C 7 (1) 4 z58 rfl (by rw [hz58]; rfl) [(7, .int z58), (6, .int z57), (0, .ref (G.1 + a0)), (4, .int x4), (5, .int x5), (8, .int x8), (9, .int x9)] (by decide) rfl 234 rfl (by decide +kernel) ?_
        refine v_goto C 166 (by decide +kernel) ?_
        refine v_sub [2, 3, 4, 1, 0] rfl ?_
        exact hkh166 σ a0 x4 x5 z57 z58 hk_a0 hf
    · have hf := ite2_f hf h54
      refine v_iload C 4 1 rfl 192 rfl (by decide +kernel) ?_
      refine v_iload C 9 6 rfl 194 rfl (by decide +kernel) ?_
      refine v_ishr C 195 rfl (by decide +kernel) ?_
      refine v_iconst C (1) (1) (by decide) 196 rfl (by decide +kernel) ?_
      refine v_iand C 197 rfl (by decide +kernel) ?_
      refine v_iconst C (1) (1) (by decide) 198 rfl (by decide +kernel) ?_
      refine v_icmp_ne C 217 201 rfl (by decide +kernel) (fun h59 => ?_) (fun h59 => ?_)
      · have hf := ite2_f hf h59
        obtain ⟨z60, hz60, hf⟩ := bnd_e hf
        refine v_iinc C 9 (1) 6 z60 rfl (by rw [hz60]; rfl) [(9, .int z60), (0, .ref (G.1 + a0)), (4, .int x4), (5, .int x5), (6, .int x6), (7, .int x7), (8, .int x8)] (by decide) rfl 220 rfl (by decide +kernel) ?_
        refine v_goto C 181 (by decide +kernel) ?_
        refine v_sub [1, 2, 3, 4, 5, 6, 0] rfl ?_
        exact ih σ a0 x4 x5 x6 x7 x8 z60 hk_a0 hf
      · have hf := ite2_t hf h59
        refine v_aload_n C 0 0 rfl 202 rfl (by decide +kernel) ?_
        refine v_iload C 9 6 rfl 204 rfl (by decide +kernel) ?_
        refine v_iload C 5 2 rfl 206 rfl (by decide +kernel) ?_
        refine v_iload C 7 4 rfl 208 rfl (by decide +kernel) ?_
        obtain ⟨r62, σ61, hcr62, hf⟩ := cl2_e hf
        refine v_cV C 9 rfl (ns_kd_lt hk_a0 (by decide)) hk_a0 (by decide) [.int x9, .int x5, .int x7] [] (c_M_stopsAt G l σ a0 x9 x5 x7 hcr62) 234 3 tw_1308 tw_1305 tw_1307 ts_100 tw_10 hd_M_stopsAt rfl ⟨(Nat.le_of_ble_eq_true rfl), (Nat.le_of_ble_eq_true rfl)⟩ ⟨(Nat.le_of_ble_eq_true rfl), (Nat.le_of_ble_eq_true rfl)⟩ (Nat.le_of_ble_eq_true rfl) rfl 211 rfl (by decide +kernel) [.int r62] rfl ?_
        refine v_if_eq C 217 214 rfl (by decide +kernel) (fun h63 => ?_) (fun h63 => ?_)
        · have hf := ite2_t hf h63
          obtain ⟨z64, hz64, hf⟩ := bnd_e hf
          refine v_iinc C 9 (1) 6 z64 rfl (by rw [hz64]; rfl) [(9, .int z64), (0, .ref (G.1 + a0)), (4, .int x4), (5, .int x5), (6, .int x6), (7, .int x7), (8, .int x8)] (by decide) rfl 220 rfl (by decide +kernel) ?_
          refine v_goto C 181 (by decide +kernel) ?_
          refine v_sub [1, 2, 3, 4, 5, 6, 0] rfl ?_
          exact ih σ61 a0 x4 x5 x6 x7 x8 z64 hk_a0 hf
        · have hf := ite2_f hf h63
          refine v_iconst C (1) (1) (by decide) 215 rfl (by decide +kernel) ?_
          refine v_istore C 8 [(8, .int (1 : Int32)), (0, .ref (G.1 + a0)), (4, .int x4), (5, .int x5), (6, .int x6), (7, .int x7), (9, .int x9)] (by decide) rfl 217 rfl (by decide +kernel) ?_
          obtain ⟨z65, hz65, hf⟩ := bnd_e hf
          refine v_iinc C 9 (1) 6 z65 rfl (by rw [hz65]; rfl) [(9, .int z65), (8, .int (1 : Int32)), (0, .ref (G.1 + a0)), (4, .int x4), (5, .int x5), (6, .int x6), (7, .int x7)] (by decide) rfl 220 rfl (by decide +kernel) ?_
          refine v_goto C 181 (by decide +kernel) ?_
          refine v_sub [2, 3, 4, 5, 6, 1, 0] rfl ?_
          exact ih σ61 a0 x4 x5 x6 x7 (1 : Int32) z65 hk_a0 hf
theorem t_M_train_166 (G : ns_G) (l : Launch) {p : Program} {e : Env} {s : State} {m : MethodId} {args : Array Value} {below : List Frame} {meth : Method} {c : Code} (C : ns_Cx G p s m args meth c prog_11_method_60_code "NinthStepModel" 10) (hr : meth.sig.returnType = (some .int)) {r : Int32} {σ' : ns_St}  : ∀ (f : Nat) (σ : ns_St) (a0 : Nat) (x4 : Int32) (x5 : Int32) (x6 : Int32) (x7 : Int32) (hk_a0 : ns_kd a0 = 9), g_M_train_166 f σ a0 x4 x5 x6 x7 = some (r, σ') → VV G p l e { frames := 4, cells := 0, slots := 0, locals := 88 } s m args below meth c 10 0 0 (MQ below (ns_Qc G (some (.int r)) ns_N σ') args s 0 0 (ns_A G)) ns_N σ 166 [(0, .ref (G.1 + a0)), (4, .int x4), (5, .int x5), (6, .int x6), (7, .int x7)] [] := by
  intro f
  induction f with
  | zero =>
    intro σ a0 x4 x5 x6 x7 hk_a0 hf
    cases hf
  | succ f ih =>
    intro σ a0 x4 x5 x6 x7 hk_a0 hf
    rw [g_M_train_166] at hf
    refine v_iload C 7 4 rfl 168 rfl (by decide +kernel) ?_
    refine v_aload_n C 0 0 rfl 169 rfl (by decide +kernel) ?_
    refine v_getI C 9 3 rfl nin_9 (ns_kd_lt hk_a0 (by decide)) hk_a0 (by decide) (by decide) rfl 59 tw_978 rfl 172 rfl (by decide +kernel) ?_
    refine v_icmp_gt C 237 175 rfl (by decide +kernel) (fun h66 => ?_) (fun h66 => ?_)
    · have hf := ite2_t hf h66
      refine v_iload C 6 3 rfl 239 rfl (by decide +kernel) ?_
      obtain ⟨rfl, rfl⟩ := ret_e hf
      exact v_iret C hr (by decide +kernel)
    · have hf := ite2_f hf h66
      refine v_iconst C (0) (0) (by decide) 176 rfl (by decide +kernel) ?_
      refine v_istore C 8 [(8, .int (0 : Int32)), (0, .ref (G.1 + a0)), (4, .int x4), (5, .int x5), (6, .int x6), (7, .int x7)] (by decide) rfl 178 rfl (by decide +kernel) ?_
      refine v_iconst C (0) (0) (by decide) 179 rfl (by decide +kernel) ?_
      refine v_istore C 9 [(9, .int (0 : Int32)), (8, .int (0 : Int32)), (0, .ref (G.1 + a0)), (4, .int x4), (5, .int x5), (6, .int x6), (7, .int x7)] (by decide) rfl 181 rfl (by decide +kernel) ?_
      refine v_sub [2, 3, 4, 5, 6, 1, 0] rfl ?_
      exact t_M_train_181 G l C hr ih ns_F σ a0 x4 x5 x6 x7 (0 : Int32) (0 : Int32) hk_a0 hf
theorem t_M_train_69 (G : ns_G) (l : Launch) {p : Program} {e : Env} {s : State} {m : MethodId} {args : Array Value} {below : List Frame} {meth : Method} {c : Code} (C : ns_Cx G p s m args meth c prog_11_method_60_code "NinthStepModel" 10) (hr : meth.sig.returnType = (some .int)) {r : Int32} {σ' : ns_St}  : ∀ (f : Nat) (σ : ns_St) (a0 : Nat) (x1 : Int32) (x2 : Int32) (x4 : Int32) (x5 : Int32) (x6 : Int32) (hk_a0 : ns_kd a0 = 9), g_M_train_69 f σ a0 x1 x2 x4 x5 x6 = some (r, σ') → VV G p l e { frames := 4, cells := 0, slots := 0, locals := 88 } s m args below meth c 10 0 0 (MQ below (ns_Qc G (some (.int r)) ns_N σ') args s 0 0 (ns_A G)) ns_N σ 69 [(0, .ref (G.1 + a0)), (1, .int x1), (2, .int x2), (4, .int x4), (5, .int x5), (6, .int x6)] [] := by
  intro f
  induction f with
  | zero =>
    intro σ a0 x1 x2 x4 x5 x6 hk_a0 hf
    cases hf
  | succ f ih =>
    intro σ a0 x1 x2 x4 x5 x6 hk_a0 hf
    rw [g_M_train_69] at hf
    refine v_iload C 6 5 rfl 71 rfl (by decide +kernel) ?_
    refine v_iload_n C 2 2 rfl 72 rfl (by decide +kernel) ?_
    refine v_icmp_ge C 157 75 rfl (by decide +kernel) (fun h67 => ?_) (fun h67 => ?_)
    · have hf := ite2_t hf h67
      refine v_iconst C (0) (0) (by decide) 158 rfl (by decide +kernel) ?_
      refine v_istore C 6 [(6, .int (0 : Int32)), (0, .ref (G.1 + a0)), (1, .int x1), (2, .int x2), (4, .int x4), (5, .int x5)] (by decide) rfl 160 rfl (by decide +kernel) ?_
      refine v_iload C 5 5 rfl 162 rfl (by decide +kernel) ?_
      refine v_iconst C (1) (1) (by decide) 163 rfl (by decide +kernel) ?_
      refine v_iadd C 164 rfl (by decide +kernel) ?_
      obtain ⟨z68, hz68, hf⟩ := bnd_e hf
      refine v_nmI hz68 ?_
      refine v_istore C 7 [(7, .int z68), (6, .int (0 : Int32)), (0, .ref (G.1 + a0)), (1, .int x1), (2, .int x2), (4, .int x4), (5, .int x5)] (by decide) rfl 166 rfl (by decide +kernel) ?_
      refine v_sub [2, 5, 6, 1, 0] rfl ?_
      exact t_M_train_166 G l C hr  ns_F σ a0 x4 x5 (0 : Int32) z68 hk_a0 hf
    · have hf := ite2_f hf h67
      refine v_aload_n C 0 0 rfl 76 rfl (by decide +kernel) ?_
      obtain ⟨b69, hb69, hf⟩ := drf_e hf
      obtain ⟨hk_b69, hf⟩ := grd_e hf
      refine v_getR C 9 2 hb69 rfl nin_9 (ns_kd_lt hk_a0 (by decide)) hk_a0 (by decide) (by decide) rfl 16 tw_977 rfl 79 rfl (by decide +kernel) ?_
      refine v_bipush C (40) (40) (by decide) 81 rfl (by decide +kernel) ?_
      refine v_iload_n C 1 1 rfl 82 rfl (by decide +kernel) ?_
      refine v_imul C 83 rfl (by decide +kernel) ?_
      refine v_iload C 6 5 rfl 85 rfl (by decide +kernel) ?_
      refine v_iadd C 86 rfl (by decide +kernel) ?_
      obtain ⟨hi70, hf⟩ := grd_e hf
      refine v_lald C (ns_kd_lt hk_b69 (by decide)) hk_b69 hi70 87 rfl (by decide +kernel) ?_
      obtain ⟨z71, hz71, hf⟩ := bnd_e hf
      refine v_nmJ hz71 ?_
      refine v_lstore C 7 [(7, .long z71), (0, .ref (G.1 + a0)), (1, .int x1), (2, .int x2), (4, .int x4), (5, .int x5), (6, .int x6)] (by decide) rfl 89 rfl (by decide +kernel) ?_
      refine v_lload C 7 0 rfl 91 rfl (by decide +kernel) ?_
      refine v_lconst C 0 (0) (by decide) 92 rfl (by decide +kernel) ?_
      refine v_lcmp C 93 rfl (by decide +kernel) ?_
      refine v_if_lt C 119 96 rfl (by decide +kernel) (fun h72 => ?_) (fun h72 => ?_)
      · have hf := ite2_t hf h72
        refine v_aload_n C 0 1 rfl 120 rfl (by decide +kernel) ?_
        refine v_bipush C (-2) (-2) (by decide) 122 rfl (by decide +kernel) ?_
        obtain ⟨r74, σ73, hcr74, hf⟩ := cl2_e hf
        refine v_cV C 9 rfl (ns_kd_lt hk_a0 (by decide)) hk_a0 (by decide) [.int (-2 : Int32)] [] (c_M_no G l σ a0 (-2 : Int32) hcr74) 73 1 tw_1079 tw_1076 tw_1078 ts_73 tw_10 hd_M_no rfl ⟨(Nat.le_of_ble_eq_true rfl), (Nat.le_of_ble_eq_true rfl)⟩ ⟨(Nat.le_of_ble_eq_true rfl), (Nat.le_of_ble_eq_true rfl)⟩ (Nat.le_of_ble_eq_true rfl) rfl 125 rfl (by decide +kernel) [.int r74] rfl ?_
        obtain ⟨rfl, rfl⟩ := ret_e hf
        exact v_iret C hr (by decide +kernel)
      · have hf := ite2_f hf h72
        refine v_lload C 7 0 rfl 98 rfl (by decide +kernel) ?_
        refine v_aload_n C 0 1 rfl 99 rfl (by decide +kernel) ?_
        refine v_getI C 9 5 rfl nin_9 (ns_kd_lt hk_a0 (by decide)) hk_a0 (by decide) (by decide) rfl 66 tw_980 rfl 102 rfl (by decide +kernel) ?_
        refine v_i2l C 103 rfl (by decide +kernel) ?_
        refine v_lcmp C 104 rfl (by decide +kernel) ?_
        refine v_if_ge C 119 107 rfl (by decide +kernel) (fun h75 => ?_) (fun h75 => ?_)
        · have hf := ite2_t hf h75
          refine v_aload_n C 0 1 rfl 120 rfl (by decide +kernel) ?_
          refine v_bipush C (-2) (-2) (by decide) 122 rfl (by decide +kernel) ?_
          obtain ⟨r77, σ76, hcr77, hf⟩ := cl2_e hf
          refine v_cV C 9 rfl (ns_kd_lt hk_a0 (by decide)) hk_a0 (by decide) [.int (-2 : Int32)] [] (c_M_no G l σ a0 (-2 : Int32) hcr77) 73 1 tw_1079 tw_1076 tw_1078 ts_73 tw_10 hd_M_no rfl ⟨(Nat.le_of_ble_eq_true rfl), (Nat.le_of_ble_eq_true rfl)⟩ ⟨(Nat.le_of_ble_eq_true rfl), (Nat.le_of_ble_eq_true rfl)⟩ (Nat.le_of_ble_eq_true rfl) rfl 125 rfl (by decide +kernel) [.int r77] rfl ?_
          obtain ⟨rfl, rfl⟩ := ret_e hf
          exact v_iret C hr (by decide +kernel)
        · have hf := ite2_f hf h75
          refine v_iload C 4 4 rfl 109 rfl (by decide +kernel) ?_
          refine v_lload C 7 0 rfl 111 rfl (by decide +kernel) ?_
          refine v_l2i C 112 rfl (by decide +kernel) ?_
          refine v_ishr C 113 rfl (by decide +kernel) ?_
          refine v_iconst C (1) (1) (by decide) 114 rfl (by decide +kernel) ?_
          refine v_iand C 115 rfl (by decide +kernel) ?_
          refine v_iconst C (1) (1) (by decide) 116 rfl (by decide +kernel) ?_
          refine v_icmp_ne C 126 119 rfl (by decide +kernel) (fun h78 => ?_) (fun h78 => ?_)
          · have hf := ite2_f hf h78
            refine v_iload C 4 4 rfl 128 rfl (by decide +kernel) ?_
            refine v_iconst C (1) (1) (by decide) 129 rfl (by decide +kernel) ?_
            refine v_lload C 7 0 rfl 131 rfl (by decide +kernel) ?_
            refine v_l2i C 132 rfl (by decide +kernel) ?_
            refine v_ishl C 133 rfl (by decide +kernel) ?_
            refine v_ior C 134 rfl (by decide +kernel) ?_
            obtain ⟨z79, hz79, hf⟩ := bnd_e hf
            refine v_nmI hz79 ?_
            refine v_istore C 4 [(4, .int z79), (7, .long z71), (0, .ref (G.1 + a0)), (1, .int x1), (2, .int x2), (5, .int x5), (6, .int x6)] (by decide) rfl 136 rfl (by decide +kernel) ?_
            refine v_iload C 5 5 rfl 138 rfl (by decide +kernel) ?_
            refine v_aload_n C 0 2 rfl 139 rfl (by decide +kernel) ?_
            obtain ⟨b80, hb80, hf⟩ := drf_e hf
            obtain ⟨hk_b80, hf⟩ := grd_e hf
            refine v_getR C 9 8 hb80 rfl nin_9 (ns_kd_lt hk_a0 (by decide)) hk_a0 (by decide) (by decide) rfl 29 tw_983 rfl 142 rfl (by decide +kernel) ?_
            refine v_lload C 7 1 rfl 144 rfl (by decide +kernel) ?_
            refine v_l2i C 145 rfl (by decide +kernel) ?_
            obtain ⟨hi81, hf⟩ := grd_e hf
            refine v_iald C (ns_kd_lt hk_b80 (by decide)) hk_b80 hi81 146 rfl (by decide +kernel) ?_
            obtain ⟨r83, σ82, hcr83, hf⟩ := cl2_e hf
            refine v_cS C [.int x5, .int (σ.1 b80 (ns_ix (z71.toInt32)))] [] (c_Math_max G l σ x5 (σ.1 b80 (ns_ix (z71.toInt32))) hcr83) 231 2 tw_598 tw_1304 tw_597 tw_18 hd_Math_max rfl ⟨(Nat.le_of_ble_eq_true rfl), (Nat.le_of_ble_eq_true rfl)⟩ ⟨(Nat.le_of_ble_eq_true rfl), (Nat.le_of_ble_eq_true rfl)⟩ (Nat.le_of_ble_eq_true rfl) rfl 149 rfl (by decide +kernel) [.int r83] rfl ?_
            refine v_istore C 5 [(5, .int r83), (4, .int z79), (7, .long z71), (0, .ref (G.1 + a0)), (1, .int x1), (2, .int x2), (6, .int x6)] (by decide) rfl 151 rfl (by decide +kernel) ?_
            obtain ⟨z84, hz84, hf⟩ := bnd_e hf
            refine v_iinc C 6 (1) 6 z84 rfl (by rw [hz84]; rfl) [(6, .int z84), (5, .int r83), (4, .int z79), (7, .long z71), (0, .ref (G.1 + a0)), (1, .int x1), (2, .int x2)] (by decide) rfl 154 rfl (by decide +kernel) ?_
            refine v_goto C 69 (by decide +kernel) ?_
            refine v_sub [4, 5, 6, 2, 1, 0] rfl ?_
            exact ih σ82 a0 x1 x2 z79 r83 z84 hk_a0 hf
          · have hf := ite2_t hf h78
            refine v_aload_n C 0 1 rfl 120 rfl (by decide +kernel) ?_
            refine v_bipush C (-2) (-2) (by decide) 122 rfl (by decide +kernel) ?_
            obtain ⟨r86, σ85, hcr86, hf⟩ := cl2_e hf
            refine v_cV C 9 rfl (ns_kd_lt hk_a0 (by decide)) hk_a0 (by decide) [.int (-2 : Int32)] [] (c_M_no G l σ a0 (-2 : Int32) hcr86) 73 1 tw_1079 tw_1076 tw_1078 ts_73 tw_10 hd_M_no rfl ⟨(Nat.le_of_ble_eq_true rfl), (Nat.le_of_ble_eq_true rfl)⟩ ⟨(Nat.le_of_ble_eq_true rfl), (Nat.le_of_ble_eq_true rfl)⟩ (Nat.le_of_ble_eq_true rfl) rfl 125 rfl (by decide +kernel) [.int r86] rfl ?_
            obtain ⟨rfl, rfl⟩ := ret_e hf
            exact v_iret C hr (by decide +kernel)
theorem c_M_train (G : ns_G) (l : Launch) (σ : ns_St) (a0 : Nat) (x1 : Int32) (x2 : Int32) {r : Int32} {σ' : ns_St} (hf : g_M_train σ a0 x1 x2 = some (r, σ')) : ns_ok G l ⟨"NinthStepModel", "train", "(II)I"⟩ prog_11_method_60_code 10 (some .int) 4 88 0 0 [.ref (G.1 + a0), .int x1, .int x2] ns_N σ (some (.int r)) ns_N σ' := by
  refine v_open (by decide) (Nat.le_of_ble_eq_true rfl) rfl ?_
  intro p e s m below meth c C hr _
  have C : ns_Cx G p s m _ meth c prog_11_method_60_code "NinthStepModel" 10 := C
  unfold g_M_train at hf
  obtain ⟨hk_a0, hf⟩ := grd_e hf
  refine v_iload_n C 1 1 rfl 1 rfl (by decide +kernel) ?_
  refine v_iconst C (0) (0) (by decide) 2 rfl (by decide +kernel) ?_
  refine v_bipush C (7) (7) (by decide) 4 rfl (by decide +kernel) ?_
  obtain ⟨r88, σ87, hcr88, hf⟩ := cl2_e hf
  refine v_cS C [.int x1, .int (0 : Int32), .int (7 : Int32)] [] (c_M_within G l σ x1 (0 : Int32) (7 : Int32) hcr88) 69 3 tw_1075 tw_1073 tw_1074 tw_10 hd_M_within rfl ⟨(Nat.le_of_ble_eq_true rfl), (Nat.le_of_ble_eq_true rfl)⟩ ⟨(Nat.le_of_ble_eq_true rfl), (Nat.le_of_ble_eq_true rfl)⟩ (Nat.le_of_ble_eq_true rfl) rfl 7 rfl (by decide +kernel) [.int r88] rfl ?_
  refine v_if_eq C 20 10 rfl (by decide +kernel) (fun h89 => ?_) (fun h89 => ?_)
  · have hf := ite2_t hf h89
    refine v_aload_n C 0 0 rfl 21 rfl (by decide +kernel) ?_
    refine v_bipush C (-2) (-2) (by decide) 23 rfl (by decide +kernel) ?_
    obtain ⟨r91, σ90, hcr91, hf⟩ := cl2_e hf
    refine v_cV C 9 rfl (ns_kd_lt hk_a0 (by decide)) hk_a0 (by decide) [.int (-2 : Int32)] [] (c_M_no G l σ87 a0 (-2 : Int32) hcr91) 73 1 tw_1079 tw_1076 tw_1078 ts_73 tw_10 hd_M_no rfl ⟨(Nat.le_of_ble_eq_true rfl), (Nat.le_of_ble_eq_true rfl)⟩ ⟨(Nat.le_of_ble_eq_true rfl), (Nat.le_of_ble_eq_true rfl)⟩ (Nat.le_of_ble_eq_true rfl) rfl 26 rfl (by decide +kernel) [.int r91] rfl ?_
    obtain ⟨rfl, rfl⟩ := ret_e hf
    exact v_iret C hr (by decide +kernel)
  · have hf := ite2_f hf h89
    refine v_iload_n C 2 2 rfl 11 rfl (by decide +kernel) ?_
    refine v_iconst C (1) (1) (by decide) 12 rfl (by decide +kernel) ?_
    refine v_bipush C (6) (6) (by decide) 14 rfl (by decide +kernel) ?_
    obtain ⟨r93, σ92, hcr93, hf⟩ := cl2_e hf
    refine v_cS C [.int x2, .int (1 : Int32), .int (6 : Int32)] [] (c_M_within G l σ87 x2 (1 : Int32) (6 : Int32) hcr93) 69 3 tw_1075 tw_1073 tw_1074 tw_10 hd_M_within rfl ⟨(Nat.le_of_ble_eq_true rfl), (Nat.le_of_ble_eq_true rfl)⟩ ⟨(Nat.le_of_ble_eq_true rfl), (Nat.le_of_ble_eq_true rfl)⟩ (Nat.le_of_ble_eq_true rfl) rfl 17 rfl (by decide +kernel) [.int r93] rfl ?_
    refine v_if_ne C 27 20 rfl (by decide +kernel) (fun h94 => ?_) (fun h94 => ?_)
    · have hf := ite2_f hf h94
      refine v_aload_n C 0 0 rfl 28 rfl (by decide +kernel) ?_
      refine v_iload_n C 1 1 rfl 29 rfl (by decide +kernel) ?_
      obtain ⟨r96, σ95, hcr96, hf⟩ := cl2_e hf
      refine v_cV C 9 rfl (ns_kd_lt hk_a0 (by decide)) hk_a0 (by decide) [.int x1] [] (c_M_noRow G l σ92 a0 x1 hcr96) 77 1 tw_1087 tw_1084 tw_1086 ts_74 tw_10 hd_M_noRow rfl ⟨(Nat.le_of_ble_eq_true rfl), (Nat.le_of_ble_eq_true rfl)⟩ ⟨(Nat.le_of_ble_eq_true rfl), (Nat.le_of_ble_eq_true rfl)⟩ (Nat.le_of_ble_eq_true rfl) rfl 32 rfl (by decide +kernel) [.int r96] rfl ?_
      refine v_istore_n C 3 [(3, .int r96), (0, .ref (G.1 + a0)), (1, .int x1), (2, .int x2)] (by decide) rfl 33 rfl (by decide +kernel) ?_
      refine v_iload_n C 3 0 rfl 34 rfl (by decide +kernel) ?_
      refine v_if_ge C 43 37 rfl (by decide +kernel) (fun h97 => ?_) (fun h97 => ?_)
      · have hf := ite2_t hf h97
        refine v_iload_n C 2 3 rfl 44 rfl (by decide +kernel) ?_
        refine v_aload_n C 0 1 rfl 45 rfl (by decide +kernel) ?_
        obtain ⟨b98, hb98, hf⟩ := drf_e hf
        obtain ⟨hk_b98, hf⟩ := grd_e hf
        refine v_getR C 9 1 hb98 rfl nin_9 (ns_kd_lt hk_a0 (by decide)) hk_a0 (by decide) (by decide) rfl 13 tw_976 rfl 48 rfl (by decide +kernel) ?_
        refine v_iload_n C 1 2 rfl 49 rfl (by decide +kernel) ?_
        obtain ⟨hi99, hf⟩ := grd_e hf
        refine v_iald C (ns_kd_lt hk_b98 (by decide)) hk_b98 hi99 50 rfl (by decide +kernel) ?_
        refine v_icmp_le C 60 53 rfl (by decide +kernel) (fun h100 => ?_) (fun h100 => ?_)
        · have hf := ite2_t hf h100
          refine v_iconst C (0) (0) (by decide) 61 rfl (by decide +kernel) ?_
          refine v_istore C 4 [(4, .int (0 : Int32)), (3, .int r96), (0, .ref (G.1 + a0)), (1, .int x1), (2, .int x2)] (by decide) rfl 63 rfl (by decide +kernel) ?_
          refine v_iconst C (0) (0) (by decide) 64 rfl (by decide +kernel) ?_
          refine v_istore C 5 [(5, .int (0 : Int32)), (4, .int (0 : Int32)), (3, .int r96), (0, .ref (G.1 + a0)), (1, .int x1), (2, .int x2)] (by decide) rfl 66 rfl (by decide +kernel) ?_
          refine v_iconst C (0) (0) (by decide) 67 rfl (by decide +kernel) ?_
          refine v_istore C 6 [(6, .int (0 : Int32)), (5, .int (0 : Int32)), (4, .int (0 : Int32)), (3, .int r96), (0, .ref (G.1 + a0)), (1, .int x1), (2, .int x2)] (by decide) rfl 69 rfl (by decide +kernel) ?_
          refine v_sub [4, 5, 6, 2, 1, 0] rfl ?_
          exact t_M_train_69 G l C hr  ns_F σ95 a0 x1 x2 (0 : Int32) (0 : Int32) (0 : Int32) hk_a0 hf
        · have hf := ite2_f hf h100
          refine v_aload_n C 0 1 rfl 54 rfl (by decide +kernel) ?_
          refine v_bipush C (-2) (-2) (by decide) 56 rfl (by decide +kernel) ?_
          obtain ⟨r102, σ101, hcr102, hf⟩ := cl2_e hf
          refine v_cV C 9 rfl (ns_kd_lt hk_a0 (by decide)) hk_a0 (by decide) [.int (-2 : Int32)] [] (c_M_no G l σ95 a0 (-2 : Int32) hcr102) 73 1 tw_1079 tw_1076 tw_1078 ts_73 tw_10 hd_M_no rfl ⟨(Nat.le_of_ble_eq_true rfl), (Nat.le_of_ble_eq_true rfl)⟩ ⟨(Nat.le_of_ble_eq_true rfl), (Nat.le_of_ble_eq_true rfl)⟩ (Nat.le_of_ble_eq_true rfl) rfl 59 rfl (by decide +kernel) [.int r102] rfl ?_
          obtain ⟨rfl, rfl⟩ := ret_e hf
          exact v_iret C hr (by decide +kernel)
      · have hf := ite2_f hf h97
        refine v_aload_n C 0 1 rfl 38 rfl (by decide +kernel) ?_
        refine v_iload_n C 3 0 rfl 39 rfl (by decide +kernel) ?_
        obtain ⟨r104, σ103, hcr104, hf⟩ := cl2_e hf
        refine v_cV C 9 rfl (ns_kd_lt hk_a0 (by decide)) hk_a0 (by decide) [.int r96] [] (c_M_no G l σ95 a0 r96 hcr104) 73 1 tw_1079 tw_1076 tw_1078 ts_73 tw_10 hd_M_no rfl ⟨(Nat.le_of_ble_eq_true rfl), (Nat.le_of_ble_eq_true rfl)⟩ ⟨(Nat.le_of_ble_eq_true rfl), (Nat.le_of_ble_eq_true rfl)⟩ (Nat.le_of_ble_eq_true rfl) rfl 42 rfl (by decide +kernel) [.int r104] rfl ?_
        obtain ⟨rfl, rfl⟩ := ret_e hf
        exact v_iret C hr (by decide +kernel)
    · have hf := ite2_t hf h94
      refine v_aload_n C 0 0 rfl 21 rfl (by decide +kernel) ?_
      refine v_bipush C (-2) (-2) (by decide) 23 rfl (by decide +kernel) ?_
      obtain ⟨r106, σ105, hcr106, hf⟩ := cl2_e hf
      refine v_cV C 9 rfl (ns_kd_lt hk_a0 (by decide)) hk_a0 (by decide) [.int (-2 : Int32)] [] (c_M_no G l σ92 a0 (-2 : Int32) hcr106) 73 1 tw_1079 tw_1076 tw_1078 ts_73 tw_10 hd_M_no rfl ⟨(Nat.le_of_ble_eq_true rfl), (Nat.le_of_ble_eq_true rfl)⟩ ⟨(Nat.le_of_ble_eq_true rfl), (Nat.le_of_ble_eq_true rfl)⟩ (Nat.le_of_ble_eq_true rfl) rfl 26 rfl (by decide +kernel) [.int r106] rfl ?_
      obtain ⟨rfl, rfl⟩ := ret_e hf
      exact v_iret C hr (by decide +kernel)
theorem hd_M_train : (⟨"NinthStepModel", "train", "(II)I"⟩ : MethodName).cls = "NinthStepModel" ∧ (⟨"NinthStepModel", "train", "(II)I"⟩ : MethodName).cls ≠ "java/lang/invoke/MethodHandle" ∧ (⟨"NinthStepModel", "train", "(II)I"⟩ : MethodName).cls ≠ "java/lang/invoke/VarHandle" ∧ (parseMethodDescriptor (⟨"NinthStepModel", "train", "(II)I"⟩ : MethodName).desc).map (fun d => d.parameters.length) = some 2 := by decide +kernel
def g_M_crowdAt_4  : Nat → ns_St → Nat → Int32 → Int32 → Int32 → Option (Int32 × ns_St)
  | 0, _, _, _, _, _ => none
  | f + 1, σ, a0, x1, x2, x3 => ite2 ((σ.1 a0 5) ≤ x3) (some (x2, σ)) (drf (σ.2.2 a0 8) fun b15 => grd (ns_kd b15 = 10) <| grd (ns_in x3 (ns_ln b15)) <| ite2 (x1 ≤ (σ.1 b15 (ns_ix x3))) (bnd (x3 + 1) fun z18 => (g_M_crowdAt_4 f) σ a0 x1 x2 z18) (drf (σ.2.2 a0 8) fun b19 => grd (ns_kd b19 = 10) <| grd (ns_in x3 (ns_ln b19)) <| cl2 (g_M_stopsAt σ a0 x3 (σ.1 b19 (ns_ix x3)) x1) fun r22 σ21 => ite2 (r22 = 0) (bnd (x3 + 1) fun z24 => (g_M_crowdAt_4 f) σ21 a0 x1 x2 z24) (bnd (x2 + 1) fun z25 => bnd (x3 + 1) fun z26 => (g_M_crowdAt_4 f) σ21 a0 x1 z25 z26)))
def g_M_crowdAt (σ : ns_St) (a0 : Nat) (x1 : Int32) : Option (Int32 × ns_St) := grd (ns_kd a0 = 9) <| g_M_crowdAt_4 ns_F σ a0 x1 (0 : Int32) (0 : Int32)
theorem t_M_crowdAt_4 (G : ns_G) (l : Launch) {p : Program} {e : Env} {s : State} {m : MethodId} {args : Array Value} {below : List Frame} {meth : Method} {c : Code} (C : ns_Cx G p s m args meth c prog_11_method_61_code "NinthStepModel" 4) (hr : meth.sig.returnType = (some .int)) {r : Int32} {σ' : ns_St}  : ∀ (f : Nat) (σ : ns_St) (a0 : Nat) (x1 : Int32) (x2 : Int32) (x3 : Int32) (hk_a0 : ns_kd a0 = 9), g_M_crowdAt_4 f σ a0 x1 x2 x3 = some (r, σ') → VV G p l e { frames := 4, cells := 0, slots := 0, locals := 88 } s m args below meth c 4 0 0 (MQ below (ns_Qc G (some (.int r)) ns_N σ') args s 0 0 (ns_A G)) ns_N σ 4 [(0, .ref (G.1 + a0)), (1, .int x1), (2, .int x2), (3, .int x3)] [] := by
  intro f
  induction f with
  | zero =>
    intro σ a0 x1 x2 x3 hk_a0 hf
    cases hf
  | succ f ih =>
    intro σ a0 x1 x2 x3 hk_a0 hf
    rw [g_M_crowdAt_4] at hf
    refine v_iload_n C 3 3 rfl 5 rfl (by decide +kernel) ?_
    refine v_aload_n C 0 0 rfl 6 rfl (by decide +kernel) ?_
    refine v_getI C 9 5 rfl nin_9 (ns_kd_lt hk_a0 (by decide)) hk_a0 (by decide) (by decide) rfl 66 tw_980 rfl 9 rfl (by decide +kernel) ?_
    refine v_icmp_ge C 46 12 rfl (by decide +kernel) (fun h14 => ?_) (fun h14 => ?_)
    · have hf := ite2_t hf h14
      refine v_iload_n C 2 2 rfl 47 rfl (by decide +kernel) ?_
      obtain ⟨rfl, rfl⟩ := ret_e hf
      exact v_iret C hr (by decide +kernel)
    · have hf := ite2_f hf h14
      refine v_aload_n C 0 0 rfl 13 rfl (by decide +kernel) ?_
      obtain ⟨b15, hb15, hf⟩ := drf_e hf
      obtain ⟨hk_b15, hf⟩ := grd_e hf
      refine v_getR C 9 8 hb15 rfl nin_9 (ns_kd_lt hk_a0 (by decide)) hk_a0 (by decide) (by decide) rfl 29 tw_983 rfl 16 rfl (by decide +kernel) ?_
      refine v_iload_n C 3 3 rfl 17 rfl (by decide +kernel) ?_
      obtain ⟨hi16, hf⟩ := grd_e hf
      refine v_iald C (ns_kd_lt hk_b15 (by decide)) hk_b15 hi16 18 rfl (by decide +kernel) ?_
      refine v_iload_n C 1 1 rfl 19 rfl (by decide +kernel) ?_
      refine v_icmp_ge C 40 22 rfl (by decide +kernel) (fun h17 => ?_) (fun h17 => ?_)
      · have hf := ite2_t hf h17
        obtain ⟨z18, hz18, hf⟩ := bnd_e hf
        refine v_iinc C 3 (1) 3 z18 rfl (by rw [hz18]; rfl) [(3, .int z18), (0, .ref (G.1 + a0)), (1, .int x1), (2, .int x2)] (by decide) rfl 43 rfl (by decide +kernel) ?_
        refine v_goto C 4 (by decide +kernel) ?_
        refine v_sub [1, 2, 3, 0] rfl ?_
        exact ih σ a0 x1 x2 z18 hk_a0 hf
      · have hf := ite2_f hf h17
        refine v_aload_n C 0 0 rfl 23 rfl (by decide +kernel) ?_
        refine v_iload_n C 3 3 rfl 24 rfl (by decide +kernel) ?_
        refine v_aload_n C 0 0 rfl 25 rfl (by decide +kernel) ?_
        obtain ⟨b19, hb19, hf⟩ := drf_e hf
        obtain ⟨hk_b19, hf⟩ := grd_e hf
        refine v_getR C 9 8 hb19 rfl nin_9 (ns_kd_lt hk_a0 (by decide)) hk_a0 (by decide) (by decide) rfl 29 tw_983 rfl 28 rfl (by decide +kernel) ?_
        refine v_iload_n C 3 3 rfl 29 rfl (by decide +kernel) ?_
        obtain ⟨hi20, hf⟩ := grd_e hf
        refine v_iald C (ns_kd_lt hk_b19 (by decide)) hk_b19 hi20 30 rfl (by decide +kernel) ?_
        refine v_iload_n C 1 1 rfl 31 rfl (by decide +kernel) ?_
        obtain ⟨r22, σ21, hcr22, hf⟩ := cl2_e hf
        refine v_cV C 9 rfl (ns_kd_lt hk_a0 (by decide)) hk_a0 (by decide) [.int x3, .int (σ.1 b19 (ns_ix x3)), .int x1] [] (c_M_stopsAt G l σ a0 x3 (σ.1 b19 (ns_ix x3)) x1 hcr22) 234 3 tw_1308 tw_1305 tw_1307 ts_100 tw_10 hd_M_stopsAt rfl ⟨(Nat.le_of_ble_eq_true rfl), (Nat.le_of_ble_eq_true rfl)⟩ ⟨(Nat.le_of_ble_eq_true rfl), (Nat.le_of_ble_eq_true rfl)⟩ (Nat.le_of_ble_eq_true rfl) rfl 34 rfl (by decide +kernel) [.int r22] rfl ?_
        refine v_if_eq C 40 37 rfl (by decide +kernel) (fun h23 => ?_) (fun h23 => ?_)
        · have hf := ite2_t hf h23
          obtain ⟨z24, hz24, hf⟩ := bnd_e hf
          refine v_iinc C 3 (1) 3 z24 rfl (by rw [hz24]; rfl) [(3, .int z24), (0, .ref (G.1 + a0)), (1, .int x1), (2, .int x2)] (by decide) rfl 43 rfl (by decide +kernel) ?_
          refine v_goto C 4 (by decide +kernel) ?_
          refine v_sub [1, 2, 3, 0] rfl ?_
          exact ih σ21 a0 x1 x2 z24 hk_a0 hf
        · have hf := ite2_f hf h23
          obtain ⟨z25, hz25, hf⟩ := bnd_e hf
          refine v_iinc C 2 (1) 2 z25 rfl (by rw [hz25]; rfl) [(2, .int z25), (0, .ref (G.1 + a0)), (1, .int x1), (3, .int x3)] (by decide) rfl 40 rfl (by decide +kernel) ?_
          obtain ⟨z26, hz26, hf⟩ := bnd_e hf
          refine v_iinc C 3 (1) 3 z26 rfl (by rw [hz26]; rfl) [(3, .int z26), (2, .int z25), (0, .ref (G.1 + a0)), (1, .int x1)] (by decide) rfl 43 rfl (by decide +kernel) ?_
          refine v_goto C 4 (by decide +kernel) ?_
          refine v_sub [2, 3, 1, 0] rfl ?_
          exact ih σ21 a0 x1 z25 z26 hk_a0 hf
theorem c_M_crowdAt (G : ns_G) (l : Launch) (σ : ns_St) (a0 : Nat) (x1 : Int32) {r : Int32} {σ' : ns_St} (hf : g_M_crowdAt σ a0 x1 = some (r, σ')) : ns_ok G l ⟨"NinthStepModel", "crowdAt", "(I)I"⟩ prog_11_method_61_code 4 (some .int) 4 88 0 0 [.ref (G.1 + a0), .int x1] ns_N σ (some (.int r)) ns_N σ' := by
  refine v_open (by decide) (Nat.le_of_ble_eq_true rfl) rfl ?_
  intro p e s m below meth c C hr _
  have C : ns_Cx G p s m _ meth c prog_11_method_61_code "NinthStepModel" 4 := C
  unfold g_M_crowdAt at hf
  obtain ⟨hk_a0, hf⟩ := grd_e hf
  refine v_iconst C (0) (0) (by decide) 1 rfl (by decide +kernel) ?_
  refine v_istore_n C 2 [(2, .int (0 : Int32)), (0, .ref (G.1 + a0)), (1, .int x1)] (by decide) rfl 2 rfl (by decide +kernel) ?_
  refine v_iconst C (0) (0) (by decide) 3 rfl (by decide +kernel) ?_
  refine v_istore_n C 3 [(3, .int (0 : Int32)), (2, .int (0 : Int32)), (0, .ref (G.1 + a0)), (1, .int x1)] (by decide) rfl 4 rfl (by decide +kernel) ?_
  refine v_sub [2, 3, 1, 0] rfl ?_
  exact t_M_crowdAt_4 G l C hr  ns_F σ a0 x1 (0 : Int32) (0 : Int32) hk_a0 hf
theorem hd_M_crowdAt : (⟨"NinthStepModel", "crowdAt", "(I)I"⟩ : MethodName).cls = "NinthStepModel" ∧ (⟨"NinthStepModel", "crowdAt", "(I)I"⟩ : MethodName).cls ≠ "java/lang/invoke/MethodHandle" ∧ (⟨"NinthStepModel", "crowdAt", "(I)I"⟩ : MethodName).cls ≠ "java/lang/invoke/VarHandle" ∧ (parseMethodDescriptor (⟨"NinthStepModel", "crowdAt", "(I)I"⟩ : MethodName).desc).map (fun d => d.parameters.length) = some 1 := by decide +kernel
def g_M_crowd (σ : ns_St) (a0 : Nat) (x1 : Int32) : Option (Int32 × ns_St) := grd (ns_kd a0 = 9) <| cl2 (g_M_isPlace σ a0 x1) fun r9 σ8 => ite2 (r9 = 0) (cl2 (g_M_no σ8 a0 (-2 : Int32)) fun r12 σ11 => some (r12, σ11)) (cl2 (g_M_crowdAt σ8 a0 x1) fun r14 σ13 => some (r14, σ13))
theorem c_M_crowd (G : ns_G) (l : Launch) (σ : ns_St) (a0 : Nat) (x1 : Int32) {r : Int32} {σ' : ns_St} (hf : g_M_crowd σ a0 x1 = some (r, σ')) : ns_ok G l ⟨"NinthStepModel", "crowd", "(I)I"⟩ prog_11_method_62_code 2 (some .int) 5 111 0 0 [.ref (G.1 + a0), .int x1] ns_N σ (some (.int r)) ns_N σ' := by
  refine v_open (by decide) (Nat.le_of_ble_eq_true rfl) rfl ?_
  intro p e s m below meth c C hr _
  have C : ns_Cx G p s m _ meth c prog_11_method_62_code "NinthStepModel" 2 := C
  unfold g_M_crowd at hf
  obtain ⟨hk_a0, hf⟩ := grd_e hf
  refine v_aload_n C 0 0 rfl 1 rfl (by decide +kernel) ?_
  refine v_iload_n C 1 1 rfl 2 rfl (by decide +kernel) ?_
  obtain ⟨r9, σ8, hcr9, hf⟩ := cl2_e hf
  refine v_cV C 9 rfl (ns_kd_lt hk_a0 (by decide)) hk_a0 (by decide) [.int x1] [] (c_M_isPlace G l σ a0 x1 hcr9) 109 1 tw_1150 tw_1147 tw_1149 ts_82 tw_10 hd_M_isPlace rfl ⟨(Nat.le_of_ble_eq_true rfl), (Nat.le_of_ble_eq_true rfl)⟩ ⟨(Nat.le_of_ble_eq_true rfl), (Nat.le_of_ble_eq_true rfl)⟩ (Nat.le_of_ble_eq_true rfl) rfl 5 rfl (by decide +kernel) [.int r9] rfl ?_
  refine v_if_eq C 16 8 rfl (by decide +kernel) (fun h10 => ?_) (fun h10 => ?_)
  · have hf := ite2_t hf h10
    refine v_aload_n C 0 0 rfl 17 rfl (by decide +kernel) ?_
    refine v_bipush C (-2) (-2) (by decide) 19 rfl (by decide +kernel) ?_
    obtain ⟨r12, σ11, hcr12, hf⟩ := cl2_e hf
    refine v_cV C 9 rfl (ns_kd_lt hk_a0 (by decide)) hk_a0 (by decide) [.int (-2 : Int32)] [] (c_M_no G l σ8 a0 (-2 : Int32) hcr12) 73 1 tw_1079 tw_1076 tw_1078 ts_73 tw_10 hd_M_no rfl ⟨(Nat.le_of_ble_eq_true rfl), (Nat.le_of_ble_eq_true rfl)⟩ ⟨(Nat.le_of_ble_eq_true rfl), (Nat.le_of_ble_eq_true rfl)⟩ (Nat.le_of_ble_eq_true rfl) rfl 22 rfl (by decide +kernel) [.int r12] rfl ?_
    obtain ⟨rfl, rfl⟩ := ret_e hf
    exact v_iret C hr (by decide +kernel)
  · have hf := ite2_f hf h10
    refine v_aload_n C 0 0 rfl 9 rfl (by decide +kernel) ?_
    refine v_iload_n C 1 1 rfl 10 rfl (by decide +kernel) ?_
    obtain ⟨r14, σ13, hcr14, hf⟩ := cl2_e hf
    refine v_cV C 9 rfl (ns_kd_lt hk_a0 (by decide)) hk_a0 (by decide) [.int x1] [] (c_M_crowdAt G l σ8 a0 x1 hcr14) 237 1 tw_1328 tw_1325 tw_1327 ts_101 tw_10 hd_M_crowdAt rfl ⟨(Nat.le_of_ble_eq_true rfl), (Nat.le_of_ble_eq_true rfl)⟩ ⟨(Nat.le_of_ble_eq_true rfl), (Nat.le_of_ble_eq_true rfl)⟩ (Nat.le_of_ble_eq_true rfl) rfl 13 rfl (by decide +kernel) [.int r14] rfl ?_
    refine v_goto C 22 (by decide +kernel) ?_
    obtain ⟨rfl, rfl⟩ := ret_e hf
    exact v_iret C hr (by decide +kernel)
theorem hd_M_crowd : (⟨"NinthStepModel", "crowd", "(I)I"⟩ : MethodName).cls = "NinthStepModel" ∧ (⟨"NinthStepModel", "crowd", "(I)I"⟩ : MethodName).cls ≠ "java/lang/invoke/MethodHandle" ∧ (⟨"NinthStepModel", "crowd", "(I)I"⟩ : MethodName).cls ≠ "java/lang/invoke/VarHandle" ∧ (parseMethodDescriptor (⟨"NinthStepModel", "crowd", "(I)I"⟩ : MethodName).desc).map (fun d => d.parameters.length) = some 1 := by decide +kernel
def g_M_best_31 (kh24 : ns_St → Nat → Int32 → Int32 → Option (Int32 × ns_St)) : Nat → ns_St → Nat → Int32 → Int32 → Int32 → Option (Int32 × ns_St)
  | 0, _, _, _, _, _ => none
  | f + 1, σ, a0, x2, x3, x4 => ite2 ((σ.1 a0 3) < x4) (bnd (x3 + (-1)) fun z20 => kh24 σ a0 x2 z20) (cl2 (g_M_crowdAt σ a0 x4) fun r22 σ21 => ite2 (r22 = x3) (bnd (x2 + (-1)) fun z25 => ite2 (x2 = 0) (some (x4, σ21)) (bnd (x4 + 1) fun z27 => (g_M_best_31 kh24 f) σ21 a0 z25 x3 z27)) (bnd (x4 + 1) fun z24 => (g_M_best_31 kh24 f) σ21 a0 x2 x3 z24))
def g_M_best_24  : Nat → ns_St → Nat → Int32 → Int32 → Option (Int32 × ns_St)
  | 0, _, _, _, _ => none
  | f + 1, σ, a0, x2, x3 => ite2 (x3 ≤ 0) (cl2 (g_M_no σ a0 (-5 : Int32)) fun r30 σ29 => some (r30, σ29)) (g_M_best_31 (g_M_best_24 f) ns_F σ a0 x2 x3 (1 : Int32))
def g_M_best (σ : ns_St) (a0 : Nat) (x1 : Int32) : Option (Int32 × ns_St) := grd (ns_kd a0 = 9) <| cl2 (g_M_within σ x1 (0 : Int32) (9 : Int32)) fun r32 σ31 => ite2 (r32 = 0) (cl2 (g_M_no σ31 a0 (-2 : Int32)) fun r36 σ35 => some (r36, σ35)) (bnd (σ31.1 a0 5) fun z34 => g_M_best_24 ns_F σ31 a0 x1 z34)
theorem t_M_best_31 (G : ns_G) (l : Launch) {p : Program} {e : Env} {s : State} {m : MethodId} {args : Array Value} {below : List Frame} {meth : Method} {c : Code} (C : ns_Cx G p s m args meth c prog_11_method_63_code "NinthStepModel" 5) (hr : meth.sig.returnType = (some .int)) {r : Int32} {σ' : ns_St} {kh24 : ns_St → Nat → Int32 → Int32 → Option (Int32 × ns_St)} (hkh24 : ∀ (σ : ns_St) (a0 : Nat) (x2 : Int32) (x3 : Int32), ns_kd a0 = 9 → kh24 σ a0 x2 x3 = some (r, σ') → VV G p l e { frames := 5, cells := 0, slots := 0, locals := 111 } s m args below meth c 5 0 0 (MQ below (ns_Qc G (some (.int r)) ns_N σ') args s 0 0 (ns_A G)) ns_N σ 24 [(0, .ref (G.1 + a0)), (2, .int x2), (3, .int x3)] []) : ∀ (f : Nat) (σ : ns_St) (a0 : Nat) (x2 : Int32) (x3 : Int32) (x4 : Int32) (hk_a0 : ns_kd a0 = 9), g_M_best_31 kh24 f σ a0 x2 x3 x4 = some (r, σ') → VV G p l e { frames := 5, cells := 0, slots := 0, locals := 111 } s m args below meth c 5 0 0 (MQ below (ns_Qc G (some (.int r)) ns_N σ') args s 0 0 (ns_A G)) ns_N σ 31 [(0, .ref (G.1 + a0)), (2, .int x2), (3, .int x3), (4, .int x4)] [] := by
  intro f
  induction f with
  | zero =>
    intro σ a0 x2 x3 x4 hk_a0 hf
    cases hf
  | succ f ih =>
    intro σ a0 x2 x3 x4 hk_a0 hf
    rw [g_M_best_31] at hf
    refine v_iload C 4 3 rfl 33 rfl (by decide +kernel) ?_
    refine v_aload_n C 0 0 rfl 34 rfl (by decide +kernel) ?_
    refine v_getI C 9 3 rfl nin_9 (ns_kd_lt hk_a0 (by decide)) hk_a0 (by decide) (by decide) rfl 59 tw_978 rfl 37 rfl (by decide +kernel) ?_
    refine v_icmp_gt C 66 40 rfl (by decide +kernel) (fun h19 => ?_) (fun h19 => ?_)
    · have hf := ite2_t hf h19
      obtain ⟨z20, hz20, hf⟩ := bnd_e hf
      refine v_iinc C 3 (-1) 2 z20 rfl (by rw [hz20]; rfl) [(3, .int z20), (0, .ref (G.1 + a0)), (2, .int x2), (4, .int x4)] (by decide) rfl 69 rfl (by decide +kernel) ?_
      refine v_goto C 24 (by decide +kernel) ?_
      refine v_sub [1, 2, 0] rfl ?_
      exact hkh24 σ a0 x2 z20 hk_a0 hf
    · have hf := ite2_f hf h19
      refine v_aload_n C 0 0 rfl 41 rfl (by decide +kernel) ?_
      refine v_iload C 4 3 rfl 43 rfl (by decide +kernel) ?_
      obtain ⟨r22, σ21, hcr22, hf⟩ := cl2_e hf
      refine v_cV C 9 rfl (ns_kd_lt hk_a0 (by decide)) hk_a0 (by decide) [.int x4] [] (c_M_crowdAt G l σ a0 x4 hcr22) 237 1 tw_1328 tw_1325 tw_1327 ts_101 tw_10 hd_M_crowdAt rfl ⟨(Nat.le_of_ble_eq_true rfl), (Nat.le_of_ble_eq_true rfl)⟩ ⟨(Nat.le_of_ble_eq_true rfl), (Nat.le_of_ble_eq_true rfl)⟩ (Nat.le_of_ble_eq_true rfl) rfl 46 rfl (by decide +kernel) [.int r22] rfl ?_
      refine v_iload_n C 3 2 rfl 47 rfl (by decide +kernel) ?_
      refine v_icmp_ne C 60 50 rfl (by decide +kernel) (fun h23 => ?_) (fun h23 => ?_)
      · have hf := ite2_f hf h23
        obtain ⟨z24, hz24, hf⟩ := bnd_e hf
        refine v_iinc C 4 (1) 3 z24 rfl (by rw [hz24]; rfl) [(4, .int z24), (0, .ref (G.1 + a0)), (2, .int x2), (3, .int x3)] (by decide) rfl 63 rfl (by decide +kernel) ?_
        refine v_goto C 31 (by decide +kernel) ?_
        refine v_sub [1, 2, 3, 0] rfl ?_
        exact ih σ21 a0 x2 x3 z24 hk_a0 hf
      · have hf := ite2_t hf h23
        refine v_iload_n C 2 1 rfl 51 rfl (by decide +kernel) ?_
        obtain ⟨z25, hz25, hf⟩ := bnd_e hf
        refine v_iinc C 2 (-1) 1 z25 rfl (by rw [hz25]; rfl) [(2, .int z25), (0, .ref (G.1 + a0)), (3, .int x3), (4, .int x4)] (by decide) rfl 54 rfl (by decide +kernel) ?_
        refine v_if_ne C 60 57 rfl (by decide +kernel) (fun h26 => ?_) (fun h26 => ?_)
        · have hf := ite2_f hf h26
          obtain ⟨z27, hz27, hf⟩ := bnd_e hf
          refine v_iinc C 4 (1) 3 z27 rfl (by rw [hz27]; rfl) [(4, .int z27), (2, .int z25), (0, .ref (G.1 + a0)), (3, .int x3)] (by decide) rfl 63 rfl (by decide +kernel) ?_
          refine v_goto C 31 (by decide +kernel) ?_
          refine v_sub [2, 1, 3, 0] rfl ?_
          exact ih σ21 a0 z25 x3 z27 hk_a0 hf
        · have hf := ite2_t hf h26
          refine v_iload C 4 3 rfl 59 rfl (by decide +kernel) ?_
          obtain ⟨rfl, rfl⟩ := ret_e hf
          exact v_iret C hr (by decide +kernel)
theorem t_M_best_24 (G : ns_G) (l : Launch) {p : Program} {e : Env} {s : State} {m : MethodId} {args : Array Value} {below : List Frame} {meth : Method} {c : Code} (C : ns_Cx G p s m args meth c prog_11_method_63_code "NinthStepModel" 5) (hr : meth.sig.returnType = (some .int)) {r : Int32} {σ' : ns_St}  : ∀ (f : Nat) (σ : ns_St) (a0 : Nat) (x2 : Int32) (x3 : Int32) (hk_a0 : ns_kd a0 = 9), g_M_best_24 f σ a0 x2 x3 = some (r, σ') → VV G p l e { frames := 5, cells := 0, slots := 0, locals := 111 } s m args below meth c 5 0 0 (MQ below (ns_Qc G (some (.int r)) ns_N σ') args s 0 0 (ns_A G)) ns_N σ 24 [(0, .ref (G.1 + a0)), (2, .int x2), (3, .int x3)] [] := by
  intro f
  induction f with
  | zero =>
    intro σ a0 x2 x3 hk_a0 hf
    cases hf
  | succ f ih =>
    intro σ a0 x2 x3 hk_a0 hf
    rw [g_M_best_24] at hf
    refine v_iload_n C 3 2 rfl 25 rfl (by decide +kernel) ?_
    refine v_if_le C 72 28 rfl (by decide +kernel) (fun h28 => ?_) (fun h28 => ?_)
    · have hf := ite2_t hf h28
      refine v_aload_n C 0 0 rfl 73 rfl (by decide +kernel) ?_
      refine v_bipush C (-5) (-5) (by decide) 75 rfl (by decide +kernel) ?_
      obtain ⟨r30, σ29, hcr30, hf⟩ := cl2_e hf
      refine v_cV C 9 rfl (ns_kd_lt hk_a0 (by decide)) hk_a0 (by decide) [.int (-5 : Int32)] [] (c_M_no G l σ a0 (-5 : Int32) hcr30) 73 1 tw_1079 tw_1076 tw_1078 ts_73 tw_10 hd_M_no rfl ⟨(Nat.le_of_ble_eq_true rfl), (Nat.le_of_ble_eq_true rfl)⟩ ⟨(Nat.le_of_ble_eq_true rfl), (Nat.le_of_ble_eq_true rfl)⟩ (Nat.le_of_ble_eq_true rfl) rfl 78 rfl (by decide +kernel) [.int r30] rfl ?_
      obtain ⟨rfl, rfl⟩ := ret_e hf
      exact v_iret C hr (by decide +kernel)
    · have hf := ite2_f hf h28
      refine v_iconst C (1) (1) (by decide) 29 rfl (by decide +kernel) ?_
      refine v_istore C 4 [(4, .int (1 : Int32)), (0, .ref (G.1 + a0)), (2, .int x2), (3, .int x3)] (by decide) rfl 31 rfl (by decide +kernel) ?_
      refine v_sub [1, 2, 3, 0] rfl ?_
      exact t_M_best_31 G l C hr ih ns_F σ a0 x2 x3 (1 : Int32) hk_a0 hf
theorem c_M_best (G : ns_G) (l : Launch) (σ : ns_St) (a0 : Nat) (x1 : Int32) {r : Int32} {σ' : ns_St} (hf : g_M_best σ a0 x1 = some (r, σ')) : ns_ok G l ⟨"NinthStepModel", "best", "(I)I"⟩ prog_11_method_63_code 5 (some .int) 5 111 0 0 [.ref (G.1 + a0), .int x1] ns_N σ (some (.int r)) ns_N σ' := by
  refine v_open (by decide) (Nat.le_of_ble_eq_true rfl) rfl ?_
  intro p e s m below meth c C hr _
  have C : ns_Cx G p s m _ meth c prog_11_method_63_code "NinthStepModel" 5 := C
  unfold g_M_best at hf
  obtain ⟨hk_a0, hf⟩ := grd_e hf
  refine v_iload_n C 1 1 rfl 1 rfl (by decide +kernel) ?_
  refine v_iconst C (0) (0) (by decide) 2 rfl (by decide +kernel) ?_
  refine v_bipush C (9) (9) (by decide) 4 rfl (by decide +kernel) ?_
  obtain ⟨r32, σ31, hcr32, hf⟩ := cl2_e hf
  refine v_cS C [.int x1, .int (0 : Int32), .int (9 : Int32)] [] (c_M_within G l σ x1 (0 : Int32) (9 : Int32) hcr32) 69 3 tw_1075 tw_1073 tw_1074 tw_10 hd_M_within rfl ⟨(Nat.le_of_ble_eq_true rfl), (Nat.le_of_ble_eq_true rfl)⟩ ⟨(Nat.le_of_ble_eq_true rfl), (Nat.le_of_ble_eq_true rfl)⟩ (Nat.le_of_ble_eq_true rfl) rfl 7 rfl (by decide +kernel) [.int r32] rfl ?_
  refine v_if_ne C 17 10 rfl (by decide +kernel) (fun h33 => ?_) (fun h33 => ?_)
  · have hf := ite2_f hf h33
    refine v_iload_n C 1 1 rfl 18 rfl (by decide +kernel) ?_
    refine v_istore_n C 2 [(2, .int x1), (0, .ref (G.1 + a0)), (1, .int x1)] (by decide) rfl 19 rfl (by decide +kernel) ?_
    refine v_aload_n C 0 1 rfl 20 rfl (by decide +kernel) ?_
    refine v_getI C 9 5 rfl nin_9 (ns_kd_lt hk_a0 (by decide)) hk_a0 (by decide) (by decide) rfl 66 tw_980 rfl 23 rfl (by decide +kernel) ?_
    obtain ⟨z34, hz34, hf⟩ := bnd_e hf
    refine v_nmI hz34 ?_
    refine v_istore_n C 3 [(3, .int z34), (2, .int x1), (0, .ref (G.1 + a0)), (1, .int x1)] (by decide) rfl 24 rfl (by decide +kernel) ?_
    refine v_sub [2, 1, 0] rfl ?_
    exact t_M_best_24 G l C hr  ns_F σ31 a0 x1 z34 hk_a0 hf
  · have hf := ite2_t hf h33
    refine v_aload_n C 0 0 rfl 11 rfl (by decide +kernel) ?_
    refine v_bipush C (-2) (-2) (by decide) 13 rfl (by decide +kernel) ?_
    obtain ⟨r36, σ35, hcr36, hf⟩ := cl2_e hf
    refine v_cV C 9 rfl (ns_kd_lt hk_a0 (by decide)) hk_a0 (by decide) [.int (-2 : Int32)] [] (c_M_no G l σ31 a0 (-2 : Int32) hcr36) 73 1 tw_1079 tw_1076 tw_1078 ts_73 tw_10 hd_M_no rfl ⟨(Nat.le_of_ble_eq_true rfl), (Nat.le_of_ble_eq_true rfl)⟩ ⟨(Nat.le_of_ble_eq_true rfl), (Nat.le_of_ble_eq_true rfl)⟩ (Nat.le_of_ble_eq_true rfl) rfl 16 rfl (by decide +kernel) [.int r36] rfl ?_
    obtain ⟨rfl, rfl⟩ := ret_e hf
    exact v_iret C hr (by decide +kernel)
theorem hd_M_best : (⟨"NinthStepModel", "best", "(I)I"⟩ : MethodName).cls = "NinthStepModel" ∧ (⟨"NinthStepModel", "best", "(I)I"⟩ : MethodName).cls ≠ "java/lang/invoke/MethodHandle" ∧ (⟨"NinthStepModel", "best", "(I)I"⟩ : MethodName).cls ≠ "java/lang/invoke/VarHandle" ∧ (parseMethodDescriptor (⟨"NinthStepModel", "best", "(I)I"⟩ : MethodName).desc).map (fun d => d.parameters.length) = some 1 := by decide +kernel
def g_M_noneFalls_2  : Nat → ns_St → Nat → Int32 → Option (Int32 × ns_St)
  | 0, _, _, _ => none
  | f + 1, σ, a0, x1 => ite2 ((σ.1 a0 5) ≤ x1) (some ((1 : Int32), σ)) (cl2 (g_M_journey σ a0 x1 (0 : Int32)) fun r8 σ7 => ite2 (r8 ≤ 0) (bnd (x1 + 1) fun z10 => (g_M_noneFalls_2 f) σ7 a0 z10) (some ((0 : Int32), σ7)))
def g_M_noneFalls (σ : ns_St) (a0 : Nat) : Option (Int32 × ns_St) := grd (ns_kd a0 = 9) <| g_M_noneFalls_2 ns_F σ a0 (0 : Int32)
theorem t_M_noneFalls_2 (G : ns_G) (l : Launch) {p : Program} {e : Env} {s : State} {m : MethodId} {args : Array Value} {below : List Frame} {meth : Method} {c : Code} (C : ns_Cx G p s m args meth c prog_11_method_64_code "NinthStepModel" 2) (hr : meth.sig.returnType = (some .boolean)) {r : Int32} {σ' : ns_St}  : ∀ (f : Nat) (σ : ns_St) (a0 : Nat) (x1 : Int32) (hk_a0 : ns_kd a0 = 9), g_M_noneFalls_2 f σ a0 x1 = some (r, σ') → VV G p l e { frames := 4, cells := 0, slots := 0, locals := 90 } s m args below meth c 2 0 0 (MQ below (ns_Qc G (some (.int r)) ns_N σ') args s 0 0 (ns_A G)) ns_N σ 2 [(0, .ref (G.1 + a0)), (1, .int x1)] [] := by
  intro f
  induction f with
  | zero =>
    intro σ a0 x1 hk_a0 hf
    cases hf
  | succ f ih =>
    intro σ a0 x1 hk_a0 hf
    rw [g_M_noneFalls_2] at hf
    refine v_iload_n C 1 1 rfl 3 rfl (by decide +kernel) ?_
    refine v_aload_n C 0 0 rfl 4 rfl (by decide +kernel) ?_
    refine v_getI C 9 5 rfl nin_9 (ns_kd_lt hk_a0 (by decide)) hk_a0 (by decide) (by decide) rfl 66 tw_980 rfl 7 rfl (by decide +kernel) ?_
    refine v_icmp_ge C 27 10 rfl (by decide +kernel) (fun h6 => ?_) (fun h6 => ?_)
    · have hf := ite2_t hf h6
      refine v_iconst C (1) (1) (by decide) 28 rfl (by decide +kernel) ?_
      obtain ⟨rfl, rfl⟩ := ret_e hf
      exact v_zret C hr rfl (by decide +kernel)
    · have hf := ite2_f hf h6
      refine v_aload_n C 0 0 rfl 11 rfl (by decide +kernel) ?_
      refine v_iload_n C 1 1 rfl 12 rfl (by decide +kernel) ?_
      refine v_iconst C (0) (0) (by decide) 13 rfl (by decide +kernel) ?_
      obtain ⟨r8, σ7, hcr8, hf⟩ := cl2_e hf
      refine v_cV C 9 rfl (ns_kd_lt hk_a0 (by decide)) hk_a0 (by decide) [.int x1, .int (0 : Int32)] [] (c_M_journey G l σ a0 x1 (0 : Int32) hcr8) 218 2 tw_1279 tw_1276 tw_1278 ts_97 tw_10 hd_M_journey rfl ⟨(Nat.le_of_ble_eq_true rfl), (Nat.le_of_ble_eq_true rfl)⟩ ⟨(Nat.le_of_ble_eq_true rfl), (Nat.le_of_ble_eq_true rfl)⟩ (Nat.le_of_ble_eq_true rfl) rfl 16 rfl (by decide +kernel) [.int r8] rfl ?_
      refine v_if_le C 21 19 rfl (by decide +kernel) (fun h9 => ?_) (fun h9 => ?_)
      · have hf := ite2_t hf h9
        obtain ⟨z10, hz10, hf⟩ := bnd_e hf
        refine v_iinc C 1 (1) 1 z10 rfl (by rw [hz10]; rfl) [(1, .int z10), (0, .ref (G.1 + a0))] (by decide) rfl 24 rfl (by decide +kernel) ?_
        refine v_goto C 2 (by decide +kernel) ?_
        refine v_sub [1, 0] rfl ?_
        exact ih σ7 a0 z10 hk_a0 hf
      · have hf := ite2_f hf h9
        refine v_iconst C (0) (0) (by decide) 20 rfl (by decide +kernel) ?_
        obtain ⟨rfl, rfl⟩ := ret_e hf
        exact v_zret C hr rfl (by decide +kernel)
theorem c_M_noneFalls (G : ns_G) (l : Launch) (σ : ns_St) (a0 : Nat) {r : Int32} {σ' : ns_St} (hf : g_M_noneFalls σ a0 = some (r, σ')) : ns_ok G l ⟨"NinthStepModel", "noneFalls", "()Z"⟩ prog_11_method_64_code 2 (some .boolean) 4 90 0 0 [.ref (G.1 + a0)] ns_N σ (some (.int r)) ns_N σ' := by
  refine v_open (by decide) (Nat.le_of_ble_eq_true rfl) rfl ?_
  intro p e s m below meth c C hr _
  have C : ns_Cx G p s m _ meth c prog_11_method_64_code "NinthStepModel" 2 := C
  unfold g_M_noneFalls at hf
  obtain ⟨hk_a0, hf⟩ := grd_e hf
  refine v_iconst C (0) (0) (by decide) 1 rfl (by decide +kernel) ?_
  refine v_istore_n C 1 [(1, .int (0 : Int32)), (0, .ref (G.1 + a0))] (by decide) rfl 2 rfl (by decide +kernel) ?_
  refine v_sub [1, 0] rfl ?_
  exact t_M_noneFalls_2 G l C hr  ns_F σ a0 (0 : Int32) hk_a0 hf
theorem hd_M_noneFalls : (⟨"NinthStepModel", "noneFalls", "()Z"⟩ : MethodName).cls = "NinthStepModel" ∧ (⟨"NinthStepModel", "noneFalls", "()Z"⟩ : MethodName).cls ≠ "java/lang/invoke/MethodHandle" ∧ (⟨"NinthStepModel", "noneFalls", "()Z"⟩ : MethodName).cls ≠ "java/lang/invoke/VarHandle" ∧ (parseMethodDescriptor (⟨"NinthStepModel", "noneFalls", "()Z"⟩ : MethodName).desc).map (fun d => d.parameters.length) = some 0 := by decide +kernel
