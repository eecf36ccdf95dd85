def g_N_firstTogether_38  : Nat → ns_St → Nat → Nat → Int64 → Int64 → Int32 → Int32 → Option (Int32 × ns_St)
  | 0, _, _, _, _, _, _, _ => none
  | f + 1, σ, a1, a2, x3, x5, x7, x8 => ite2 (x7 ≤ x8) (cl2 (g_Mule_arrival σ a1 x7 x3) fun r33 σ32 => cl2 (g_Mule_arrival σ32 a2 x7 x5) fun r35 σ34 => cl2 (g_Math_max σ34 r33 r35) fun r37 σ36 => some (r37, σ36)) (cl2 (g_Mule_arrival σ a1 x8 x3) fun r39 σ38 => cl2 (g_Mule_arrival σ38 a2 x8 x5) fun r41 σ40 => cl2 (g_Math_max σ40 r39 r41) fun r43 σ42 => cl2 (g_Mule_arrival σ42 a1 (x8 + (1 : Int32)) x3) fun r45 σ44 => cl2 (g_Mule_arrival σ44 a2 (x8 + (1 : Int32)) x5) fun r47 σ46 => cl2 (g_Math_min σ46 r45 r47) fun r49 σ48 => ite2 (r49 ≤ r43) (bnd (x8 + 1) fun z51 => (g_N_firstTogether_38 f) σ48 a1 a2 x3 x5 x7 z51) (some (r43, σ48)))
def g_N_firstTogether (σ : ns_St) (a0 : Nat) (a1 : Nat) (a2 : Nat) : Option (Int32 × ns_St) := grd (ns_kd a0 = 8) <| grd (ns_kd a1 = 2) <| grd (ns_kd a2 = 2) <| cl2 (g_N_stopsOf σ a0 a1) fun r53 σ52 => cl2 (g_N_stopsOf σ52 a0 a2) fun r55 σ54 => drf (σ54.2.2 a0 0) fun b56 => grd (ns_kd b56 = 7) <| drf (σ54.2.2 b56 0) fun b57 => grd (ns_kd b57 = 1) <| bnd (σ54.1 b57 0) fun z58 => cl2 (g_Math_max σ54 (σ54.1 a1 2) (σ54.1 a2 2)) fun r60 σ59 => g_N_firstTogether_38 ns_F σ59 a1 a2 r53 r55 z58 r60
theorem t_N_firstTogether_38 (G : ns_G) (l : Launch) {p : Program} {e : Env} {s : State} {m : MethodId} {args : Array Value} {below : List Frame} {meth : Method} {c : Code} (C : ns_Cx G p s m args meth c prog_1_method_58_code "NinthStep" 11) (hr : meth.sig.returnType = (some .int)) {r : Int32} {σ' : ns_St}  : ∀ (f : Nat) (σ : ns_St) (a1 : Nat) (a2 : Nat) (x3 : Int64) (x5 : Int64) (x7 : Int32) (x8 : Int32) (hk_a1 : ns_kd a1 = 2) (hk_a2 : ns_kd a2 = 2), g_N_firstTogether_38 f σ a1 a2 x3 x5 x7 x8 = some (r, σ') → VV G p l e { frames := 4, cells := 0, slots := 0, locals := 93 } s m args below meth c 11 0 0 (MQ below (ns_Qc G (some (.int r)) ns_N σ') args s 0 0 (ns_A G)) ns_N σ 38 [(1, .ref (G.1 + a1)), (2, .ref (G.1 + a2)), (3, .long x3), (5, .long x5), (7, .int x7), (8, .int x8)] [] := by
  intro f
  induction f with
  | zero =>
    intro σ a1 a2 x3 x5 x7 x8 hk_a1 hk_a2 hf
    cases hf
  | succ f ih =>
    intro σ a1 a2 x3 x5 x7 x8 hk_a1 hk_a2 hf
    rw [g_N_firstTogether_38] at hf
    refine v_iload C 8 5 rfl 40 rfl (by decide +kernel) ?_
    refine v_iload C 7 4 rfl 42 rfl (by decide +kernel) ?_
    refine v_icmp_ge C 105 45 rfl (by decide +kernel) (fun h31 => ?_) (fun h31 => ?_)
    · have hf := ite2_t hf h31
      refine v_aload_n C 1 0 rfl 106 rfl (by decide +kernel) ?_
      refine v_iload C 7 4 rfl 108 rfl (by decide +kernel) ?_
      refine v_lload_n C 3 2 rfl 109 rfl (by decide +kernel) ?_
      obtain ⟨r33, σ32, hcr33, hf⟩ := cl2_e hf
      refine v_cVN C 2 rfl (ns_kd_lt hk_a1 (by decide)) hk_a1 (by decide) [.int x7, .long x3] [] (c_Mule_arrival G l σ a1 x7 x3 hcr33) 226 2 tw_680 tw_677 tw_679 ts_35 tw_4 hd_Mule_arrival rfl ⟨(Nat.le_of_ble_eq_true rfl), (Nat.le_of_ble_eq_true rfl)⟩ ⟨(Nat.le_of_ble_eq_true rfl), (Nat.le_of_ble_eq_true rfl)⟩ (Nat.le_of_ble_eq_true rfl) rfl 112 rfl (by decide +kernel) [.int r33] rfl ?_
      refine v_aload_n C 2 1 rfl 113 rfl (by decide +kernel) ?_
      refine v_iload C 7 4 rfl 115 rfl (by decide +kernel) ?_
      refine v_lload C 5 3 rfl 117 rfl (by decide +kernel) ?_
      obtain ⟨r35, σ34, hcr35, hf⟩ := cl2_e hf
      refine v_cVN C 2 rfl (ns_kd_lt hk_a2 (by decide)) hk_a2 (by decide) [.int x7, .long x5] [.int r33] (c_Mule_arrival G l σ32 a2 x7 x5 hcr35) 226 2 tw_680 tw_677 tw_679 ts_35 tw_4 hd_Mule_arrival rfl ⟨(Nat.le_of_ble_eq_true rfl), (Nat.le_of_ble_eq_true rfl)⟩ ⟨(Nat.le_of_ble_eq_true rfl), (Nat.le_of_ble_eq_true rfl)⟩ (Nat.le_of_ble_eq_true rfl) rfl 120 rfl (by decide +kernel) [.int r35, .int r33] rfl ?_
      obtain ⟨r37, σ36, hcr37, hf⟩ := cl2_e hf
      refine v_cS C [.int r33, .int r35] [] (c_Math_max G l σ34 r33 r35 hcr37) 252 2 tw_598 tw_755 tw_597 tw_18 hd_Math_max rfl ⟨(Nat.le_of_ble_eq_true rfl), (Nat.le_of_ble_eq_true rfl)⟩ ⟨(Nat.le_of_ble_eq_true rfl), (Nat.le_of_ble_eq_true rfl)⟩ (Nat.le_of_ble_eq_true rfl) rfl 123 rfl (by decide +kernel) [.int r37] rfl ?_
      obtain ⟨rfl, rfl⟩ := ret_e hf
      exact v_iret C hr (by decide +kernel)
    · have hf := ite2_f hf h31
      refine v_aload_n C 1 0 rfl 46 rfl (by decide +kernel) ?_
      refine v_iload C 8 5 rfl 48 rfl (by decide +kernel) ?_
      refine v_lload_n C 3 2 rfl 49 rfl (by decide +kernel) ?_
      obtain ⟨r39, σ38, hcr39, hf⟩ := cl2_e hf
      refine v_cVN C 2 rfl (ns_kd_lt hk_a1 (by decide)) hk_a1 (by decide) [.int x8, .long x3] [] (c_Mule_arrival G l σ a1 x8 x3 hcr39) 226 2 tw_680 tw_677 tw_679 ts_35 tw_4 hd_Mule_arrival rfl ⟨(Nat.le_of_ble_eq_true rfl), (Nat.le_of_ble_eq_true rfl)⟩ ⟨(Nat.le_of_ble_eq_true rfl), (Nat.le_of_ble_eq_true rfl)⟩ (Nat.le_of_ble_eq_true rfl) rfl 52 rfl (by decide +kernel) [.int r39] rfl ?_
      refine v_aload_n C 2 1 rfl 53 rfl (by decide +kernel) ?_
      refine v_iload C 8 5 rfl 55 rfl (by decide +kernel) ?_
      refine v_lload C 5 3 rfl 57 rfl (by decide +kernel) ?_
      obtain ⟨r41, σ40, hcr41, hf⟩ := cl2_e hf
      refine v_cVN C 2 rfl (ns_kd_lt hk_a2 (by decide)) hk_a2 (by decide) [.int x8, .long x5] [.int r39] (c_Mule_arrival G l σ38 a2 x8 x5 hcr41) 226 2 tw_680 tw_677 tw_679 ts_35 tw_4 hd_Mule_arrival rfl ⟨(Nat.le_of_ble_eq_true rfl), (Nat.le_of_ble_eq_true rfl)⟩ ⟨(Nat.le_of_ble_eq_true rfl), (Nat.le_of_ble_eq_true rfl)⟩ (Nat.le_of_ble_eq_true rfl) rfl 60 rfl (by decide +kernel) [.int r41, .int r39] rfl ?_
      obtain ⟨r43, σ42, hcr43, hf⟩ := cl2_e hf
      refine v_cS C [.int r39, .int r41] [] (c_Math_max G l σ40 r39 r41 hcr43) 252 2 tw_598 tw_755 tw_597 tw_18 hd_Math_max rfl ⟨(Nat.le_of_ble_eq_true rfl), (Nat.le_of_ble_eq_true rfl)⟩ ⟨(Nat.le_of_ble_eq_true rfl), (Nat.le_of_ble_eq_true rfl)⟩ (Nat.le_of_ble_eq_true rfl) rfl 63 rfl (by decide +kernel) [.int r43] rfl ?_
      refine v_istore C 9 [(9, .int r43), (1, .ref (G.1 + a1)), (2, .ref (G.1 + a2)), (3, .long x3), (5, .long x5), (7, .int x7), (8, .int x8)] (by decide) rfl 65 rfl (by decide +kernel) ?_
      refine v_aload_n C 1 1 rfl 66 rfl (by decide +kernel) ?_
      refine v_iload C 8 6 rfl 68 rfl (by decide +kernel) ?_
      refine v_iconst C (1) (1) (by decide) 69 rfl (by decide +kernel) ?_
      refine v_iadd C 70 rfl (by decide +kernel) ?_
      refine v_lload_n C 3 3 rfl 71 rfl (by decide +kernel) ?_
      obtain ⟨r45, σ44, hcr45, hf⟩ := cl2_e hf
      refine v_cVN C 2 rfl (ns_kd_lt hk_a1 (by decide)) hk_a1 (by decide) [.int (x8 + (1 : Int32)), .long x3] [] (c_Mule_arrival G l σ42 a1 (x8 + (1 : Int32)) x3 hcr45) 226 2 tw_680 tw_677 tw_679 ts_35 tw_4 hd_Mule_arrival rfl ⟨(Nat.le_of_ble_eq_true rfl), (Nat.le_of_ble_eq_true rfl)⟩ ⟨(Nat.le_of_ble_eq_true rfl), (Nat.le_of_ble_eq_true rfl)⟩ (Nat.le_of_ble_eq_true rfl) rfl 74 rfl (by decide +kernel) [.int r45] rfl ?_
      refine v_aload_n C 2 2 rfl 75 rfl (by decide +kernel) ?_
      refine v_iload C 8 6 rfl 77 rfl (by decide +kernel) ?_
      refine v_iconst C (1) (1) (by decide) 78 rfl (by decide +kernel) ?_
      refine v_iadd C 79 rfl (by decide +kernel) ?_
      refine v_lload C 5 4 rfl 81 rfl (by decide +kernel) ?_
      obtain ⟨r47, σ46, hcr47, hf⟩ := cl2_e hf
      refine v_cVN C 2 rfl (ns_kd_lt hk_a2 (by decide)) hk_a2 (by decide) [.int (x8 + (1 : Int32)), .long x5] [.int r45] (c_Mule_arrival G l σ44 a2 (x8 + (1 : Int32)) x5 hcr47) 226 2 tw_680 tw_677 tw_679 ts_35 tw_4 hd_Mule_arrival rfl ⟨(Nat.le_of_ble_eq_true rfl), (Nat.le_of_ble_eq_true rfl)⟩ ⟨(Nat.le_of_ble_eq_true rfl), (Nat.le_of_ble_eq_true rfl)⟩ (Nat.le_of_ble_eq_true rfl) rfl 84 rfl (by decide +kernel) [.int r47, .int r45] rfl ?_
      obtain ⟨r49, σ48, hcr49, hf⟩ := cl2_e hf
      refine v_cS C [.int r45, .int r47] [] (c_Math_min G l σ46 r45 r47 hcr49) 369 2 tw_663 tw_764 tw_662 tw_18 hd_Math_min rfl ⟨(Nat.le_of_ble_eq_true rfl), (Nat.le_of_ble_eq_true rfl)⟩ ⟨(Nat.le_of_ble_eq_true rfl), (Nat.le_of_ble_eq_true rfl)⟩ (Nat.le_of_ble_eq_true rfl) rfl 87 rfl (by decide +kernel) [.int r49] rfl ?_
      refine v_istore C 10 [(10, .int r49), (9, .int r43), (1, .ref (G.1 + a1)), (2, .ref (G.1 + a2)), (3, .long x3), (5, .long x5), (7, .int x7), (8, .int x8)] (by decide) rfl 89 rfl (by decide +kernel) ?_
      refine v_iload C 9 1 rfl 91 rfl (by decide +kernel) ?_
      refine v_iload C 10 0 rfl 93 rfl (by decide +kernel) ?_
      refine v_icmp_ge C 99 96 rfl (by decide +kernel) (fun h50 => ?_) (fun h50 => ?_)
      · have hf := ite2_t hf h50
        obtain ⟨z51, hz51, hf⟩ := bnd_e hf
        refine v_iinc C 8 (1) 7 z51 rfl (by rw [hz51]; rfl) [(8, .int z51), (10, .int r49), (9, .int r43), (1, .ref (G.1 + a1)), (2, .ref (G.1 + a2)), (3, .long x3), (5, .long x5), (7, .int x7)] (by decide) rfl 102 rfl (by decide +kernel) ?_
        refine v_goto C 38 (by decide +kernel) ?_
        refine v_sub [3, 4, 5, 6, 7, 0] rfl ?_
        exact ih σ48 a1 a2 x3 x5 x7 z51 hk_a1 hk_a2 hf
      · have hf := ite2_f hf h50
        refine v_iload C 9 1 rfl 98 rfl (by decide +kernel) ?_
        obtain ⟨rfl, rfl⟩ := ret_e hf
        exact v_iret C hr (by decide +kernel)
theorem c_N_firstTogether (G : ns_G) (l : Launch) (σ : ns_St) (a0 : Nat) (a1 : Nat) (a2 : Nat) {r : Int32} {σ' : ns_St} (hf : g_N_firstTogether σ a0 a1 a2 = some (r, σ')) : ns_ok G l ⟨"NinthStep", "firstTogether", "(LNinthStep$Mule;LNinthStep$Mule;)I"⟩ prog_1_method_58_code 11 (some .int) 4 93 0 0 [.ref (G.1 + a0), .ref (G.1 + a1), .ref (G.1 + a2)] ns_N σ (some (.int r)) ns_N σ' := by
  refine v_open (by decide) (Nat.le_of_ble_eq_true rfl) rfl ?_
  intro p e s m below meth c C hr _
  have C : ns_Cx G p s m _ meth c prog_1_method_58_code "NinthStep" 11 := C
  unfold g_N_firstTogether at hf
  obtain ⟨hk_a0, hf⟩ := grd_e hf
  obtain ⟨hk_a1, hf⟩ := grd_e hf
  obtain ⟨hk_a2, hf⟩ := grd_e hf
  refine v_aload_n C 0 0 rfl 1 rfl (by decide +kernel) ?_
  refine v_aload_n C 1 1 rfl 2 rfl (by decide +kernel) ?_
  obtain ⟨r53, σ52, hcr53, hf⟩ := cl2_e hf
  refine v_cV C 8 rfl (ns_kd_lt hk_a0 (by decide)) hk_a0 (by decide) [.ref (G.1 + a1)] [] (c_N_stopsOf G l σ a0 a1 hcr53) 209 1 tw_643 tw_640 tw_642 ts_29 tw_1 hd_N_stopsOf rfl ⟨(Nat.le_of_ble_eq_true rfl), (Nat.le_of_ble_eq_true rfl)⟩ ⟨(Nat.le_of_ble_eq_true rfl), (Nat.le_of_ble_eq_true rfl)⟩ (Nat.le_of_ble_eq_true rfl) rfl 5 rfl (by decide +kernel) [.long r53] rfl ?_
  refine v_lstore_n C 3 [(3, .long r53), (0, .ref (G.1 + a0)), (1, .ref (G.1 + a1)), (2, .ref (G.1 + a2))] (by decide) rfl 6 rfl (by decide +kernel) ?_
  refine v_aload_n C 0 1 rfl 7 rfl (by decide +kernel) ?_
  refine v_aload_n C 2 3 rfl 8 rfl (by decide +kernel) ?_
  obtain ⟨r55, σ54, hcr55, hf⟩ := cl2_e hf
  refine v_cV C 8 rfl (ns_kd_lt hk_a0 (by decide)) hk_a0 (by decide) [.ref (G.1 + a2)] [] (c_N_stopsOf G l σ52 a0 a2 hcr55) 209 1 tw_643 tw_640 tw_642 ts_29 tw_1 hd_N_stopsOf rfl ⟨(Nat.le_of_ble_eq_true rfl), (Nat.le_of_ble_eq_true rfl)⟩ ⟨(Nat.le_of_ble_eq_true rfl), (Nat.le_of_ble_eq_true rfl)⟩ (Nat.le_of_ble_eq_true rfl) rfl 11 rfl (by decide +kernel) [.long r55] rfl ?_
  refine v_lstore C 5 [(5, .long r55), (3, .long r53), (0, .ref (G.1 + a0)), (1, .ref (G.1 + a1)), (2, .ref (G.1 + a2))] (by decide) rfl 13 rfl (by decide +kernel) ?_
  refine v_aload_n C 0 2 rfl 14 rfl (by decide +kernel) ?_
  obtain ⟨b56, hb56, hf⟩ := drf_e hf
  obtain ⟨hk_b56, hf⟩ := grd_e hf
  refine v_getR C 8 0 hb56 rfl nin_8 (ns_kd_lt hk_a0 (by decide)) hk_a0 (by decide) (by decide) rfl 12 tw_287 rfl 17 rfl (by decide +kernel) ?_
  obtain ⟨b57, hb57, hf⟩ := drf_e hf
  obtain ⟨hk_b57, hf⟩ := grd_e hf
  refine v_getRN C 7 0 hb57 rfl nin_7 (ns_kd_lt hk_b56 (by decide)) hk_b56 (by decide) (by decide) rfl 138 tw_128 rfl 20 rfl (by decide +kernel) ?_
  refine v_getIN C 1 0 rfl nin_1 (ns_kd_lt hk_b57 (by decide)) hk_b57 (by decide) (by decide) rfl 147 tw_45 rfl 23 rfl (by decide +kernel) ?_
  obtain ⟨z58, hz58, hf⟩ := bnd_e hf
  refine v_nmI hz58 ?_
  refine v_istore C 7 [(7, .int z58), (5, .long r55), (3, .long r53), (0, .ref (G.1 + a0)), (1, .ref (G.1 + a1)), (2, .ref (G.1 + a2))] (by decide) rfl 25 rfl (by decide +kernel) ?_
  refine v_aload_n C 1 4 rfl 26 rfl (by decide +kernel) ?_
  refine v_getIN C 2 2 rfl nin_2 (ns_kd_lt hk_a1 (by decide)) hk_a1 (by decide) (by decide) rfl 179 tw_93 rfl 29 rfl (by decide +kernel) ?_
  refine v_aload_n C 2 5 rfl 30 rfl (by decide +kernel) ?_
  refine v_getIN C 2 2 rfl nin_2 (ns_kd_lt hk_a2 (by decide)) hk_a2 (by decide) (by decide) rfl 179 tw_93 rfl 33 rfl (by decide +kernel) ?_
  obtain ⟨r60, σ59, hcr60, hf⟩ := cl2_e hf
  refine v_cS C [.int (σ54.1 a1 2), .int (σ54.1 a2 2)] [] (c_Math_max G l σ54 (σ54.1 a1 2) (σ54.1 a2 2) hcr60) 252 2 tw_598 tw_755 tw_597 tw_18 hd_Math_max rfl ⟨(Nat.le_of_ble_eq_true rfl), (Nat.le_of_ble_eq_true rfl)⟩ ⟨(Nat.le_of_ble_eq_true rfl), (Nat.le_of_ble_eq_true rfl)⟩ (Nat.le_of_ble_eq_true rfl) rfl 36 rfl (by decide +kernel) [.int r60] rfl ?_
  refine v_istore C 8 [(8, .int r60), (7, .int z58), (5, .long r55), (3, .long r53), (0, .ref (G.1 + a0)), (1, .ref (G.1 + a1)), (2, .ref (G.1 + a2))] (by decide) rfl 38 rfl (by decide +kernel) ?_
  refine v_sub [5, 6, 3, 2, 1, 0] rfl ?_
  exact t_N_firstTogether_38 G l C hr  ns_F σ59 a1 a2 r53 r55 z58 r60 hk_a1 hk_a2 hf
theorem hd_N_firstTogether : (⟨"NinthStep", "firstTogether", "(LNinthStep$Mule;LNinthStep$Mule;)I"⟩ : MethodName).cls = "NinthStep" ∧ (⟨"NinthStep", "firstTogether", "(LNinthStep$Mule;LNinthStep$Mule;)I"⟩ : MethodName).cls ≠ "java/lang/invoke/MethodHandle" ∧ (⟨"NinthStep", "firstTogether", "(LNinthStep$Mule;LNinthStep$Mule;)I"⟩ : MethodName).cls ≠ "java/lang/invoke/VarHandle" ∧ (parseMethodDescriptor (⟨"NinthStep", "firstTogether", "(LNinthStep$Mule;LNinthStep$Mule;)I"⟩ : MethodName).desc).map (fun d => d.parameters.length) = some 2 := by decide +kernel
def g_N_meets (σ : ns_St) (a0 : Nat) (x1 : Int32) (x2 : Int32) : Option (Int32 × ns_St) := grd (ns_kd a0 = 8) <| drf (σ.2.2 a0 0) fun b25 => grd (ns_kd b25 = 7) <| cl2 (g_World_muleAt σ b25 x1) fun r27 σ26 => onul r27 (drf (σ26.2.2 a0 0) fun b29 => grd (ns_kd b29 = 7) <| cl2 (g_World_muleAt σ26 b29 x2) fun r31 σ30 => onul r31 (cl2 (g_N_refuse σ30 a0 (-2 : Int32)) fun r34 σ33 => some (r34, σ33)) (fun b32 => grd (ns_kd b32 = 2) <| cl2 (g_N_refuse σ30 a0 (-2 : Int32)) fun r36 σ35 => some (r36, σ35))) (fun b28 => grd (ns_kd b28 = 2) <| drf (σ26.2.2 a0 0) fun b37 => grd (ns_kd b37 = 7) <| cl2 (g_World_muleAt σ26 b37 x2) fun r39 σ38 => onul r39 (cl2 (g_N_refuse σ38 a0 (-2 : Int32)) fun r42 σ41 => some (r42, σ41)) (fun b40 => grd (ns_kd b40 = 2) <| ite2 (x1 = x2) (cl2 (g_N_refuse σ38 a0 (-2 : Int32)) fun r48 σ47 => some (r48, σ47)) (cl2 (g_N_firstTogether σ38 a0 b28 b40) fun r45 σ44 => ite2 (r45 ≤ (400 : Int32)) (some (r45, σ44)) (some ((-1 : Int32), σ44)))))
theorem c_N_meets (G : ns_G) (l : Launch) (σ : ns_St) (a0 : Nat) (x1 : Int32) (x2 : Int32) {r : Int32} {σ' : ns_St} (hf : g_N_meets σ a0 x1 x2 = some (r, σ')) : ns_ok G l ⟨"NinthStep", "meets", "(II)I"⟩ prog_1_method_28_code 6 (some .int) 5 123 0 0 [.ref (G.1 + a0), .int x1, .int x2] ns_N σ (some (.int r)) ns_N σ' := by
  refine v_open (by decide) (Nat.le_of_ble_eq_true rfl) rfl ?_
  intro p e s m below meth c C hr _
  have C : ns_Cx G p s m _ meth c prog_1_method_28_code "NinthStep" 6 := C
  unfold g_N_meets at hf
  obtain ⟨hk_a0, hf⟩ := grd_e hf
  refine v_aload_n C 0 0 rfl 1 rfl (by decide +kernel) ?_
  obtain ⟨b25, hb25, hf⟩ := drf_e hf
  obtain ⟨hk_b25, hf⟩ := grd_e hf
  refine v_getR C 8 0 hb25 rfl nin_8 (ns_kd_lt hk_a0 (by decide)) hk_a0 (by decide) (by decide) rfl 12 tw_287 rfl 4 rfl (by decide +kernel) ?_
  refine v_iload_n C 1 1 rfl 5 rfl (by decide +kernel) ?_
  obtain ⟨r27, σ26, hcr27, hf⟩ := cl2_e hf
  rcases r27 with _ | b28
  · have hf := onul_n hf
    refine v_cVN C 7 rfl (ns_kd_lt hk_b25 (by decide)) hk_b25 (by decide) [.int x1] [] (c_World_muleAt G l σ b25 x1 hcr27) 120 1 tw_390 tw_387 tw_389 ts_7 tw_2 hd_World_muleAt rfl ⟨(Nat.le_of_ble_eq_true rfl), (Nat.le_of_ble_eq_true rfl)⟩ ⟨(Nat.le_of_ble_eq_true rfl), (Nat.le_of_ble_eq_true rfl)⟩ (Nat.le_of_ble_eq_true rfl) rfl 8 rfl (by decide +kernel) [.null] rfl ?_
    refine v_astore_nN C 3 [(3, .null), (0, .ref (G.1 + a0)), (1, .int x1), (2, .int x2)] (by decide) rfl 9 rfl (by decide +kernel) ?_
    refine v_aload_n C 0 1 rfl 10 rfl (by decide +kernel) ?_
    obtain ⟨b29, hb29, hf⟩ := drf_e hf
    obtain ⟨hk_b29, hf⟩ := grd_e hf
    refine v_getR C 8 0 hb29 rfl nin_8 (ns_kd_lt hk_a0 (by decide)) hk_a0 (by decide) (by decide) rfl 12 tw_287 rfl 13 rfl (by decide +kernel) ?_
    refine v_iload_n C 2 3 rfl 14 rfl (by decide +kernel) ?_
    obtain ⟨r31, σ30, hcr31, hf⟩ := cl2_e hf
    rcases r31 with _ | b32
    · have hf := onul_n hf
      refine v_cVN C 7 rfl (ns_kd_lt hk_b29 (by decide)) hk_b29 (by decide) [.int x2] [] (c_World_muleAt G l σ26 b29 x2 hcr31) 120 1 tw_390 tw_387 tw_389 ts_7 tw_2 hd_World_muleAt rfl ⟨(Nat.le_of_ble_eq_true rfl), (Nat.le_of_ble_eq_true rfl)⟩ ⟨(Nat.le_of_ble_eq_true rfl), (Nat.le_of_ble_eq_true rfl)⟩ (Nat.le_of_ble_eq_true rfl) rfl 17 rfl (by decide +kernel) [.null] rfl ?_
      refine v_astoreN C 4 [(4, .null), (3, .null), (0, .ref (G.1 + a0)), (1, .int x1), (2, .int x2)] (by decide) rfl 19 rfl (by decide +kernel) ?_
      refine v_aload_nN C 3 1 rfl 20 rfl (by decide +kernel) ?_
      refine v_ifnullN C 33 (by decide +kernel) ?_
      refine v_aload_n C 0 2 rfl 34 rfl (by decide +kernel) ?_
      refine v_bipush C (-2) (-2) (by decide) 36 rfl (by decide +kernel) ?_
      obtain ⟨r34, σ33, hcr34, hf⟩ := cl2_e hf
      refine v_cV C 8 rfl (ns_kd_lt hk_a0 (by decide)) hk_a0 (by decide) [.int (-2 : Int32)] [] (c_N_refuse G l σ30 a0 (-2 : Int32) hcr34) 79 1 tw_338 tw_335 tw_337 ts_1 tw_1 hd_N_refuse rfl ⟨(Nat.le_of_ble_eq_true rfl), (Nat.le_of_ble_eq_true rfl)⟩ ⟨(Nat.le_of_ble_eq_true rfl), (Nat.le_of_ble_eq_true rfl)⟩ (Nat.le_of_ble_eq_true rfl) rfl 39 rfl (by decide +kernel) [.int r34] rfl ?_
      obtain ⟨rfl, rfl⟩ := ret_e hf
      exact v_iret C hr (by decide +kernel)
    · have hf := onul_s hf
      obtain ⟨hk_b32, hf⟩ := grd_e hf
      refine v_cVN C 7 rfl (ns_kd_lt hk_b29 (by decide)) hk_b29 (by decide) [.int x2] [] (c_World_muleAt G l σ26 b29 x2 hcr31) 120 1 tw_390 tw_387 tw_389 ts_7 tw_2 hd_World_muleAt rfl ⟨(Nat.le_of_ble_eq_true rfl), (Nat.le_of_ble_eq_true rfl)⟩ ⟨(Nat.le_of_ble_eq_true rfl), (Nat.le_of_ble_eq_true rfl)⟩ (Nat.le_of_ble_eq_true rfl) rfl 17 rfl (by decide +kernel) [.ref (G.1 + b32)] rfl ?_
      refine v_astore C 4 [(4, .ref (G.1 + b32)), (3, .null), (0, .ref (G.1 + a0)), (1, .int x1), (2, .int x2)] (by decide) rfl 19 rfl (by decide +kernel) ?_
      refine v_aload_nN C 3 1 rfl 20 rfl (by decide +kernel) ?_
      refine v_ifnullN C 33 (by decide +kernel) ?_
      refine v_aload_n C 0 2 rfl 34 rfl (by decide +kernel) ?_
      refine v_bipush C (-2) (-2) (by decide) 36 rfl (by decide +kernel) ?_
      obtain ⟨r36, σ35, hcr36, hf⟩ := cl2_e hf
      refine v_cV C 8 rfl (ns_kd_lt hk_a0 (by decide)) hk_a0 (by decide) [.int (-2 : Int32)] [] (c_N_refuse G l σ30 a0 (-2 : Int32) hcr36) 79 1 tw_338 tw_335 tw_337 ts_1 tw_1 hd_N_refuse rfl ⟨(Nat.le_of_ble_eq_true rfl), (Nat.le_of_ble_eq_true rfl)⟩ ⟨(Nat.le_of_ble_eq_true rfl), (Nat.le_of_ble_eq_true rfl)⟩ (Nat.le_of_ble_eq_true rfl) rfl 39 rfl (by decide +kernel) [.int r36] rfl ?_
      obtain ⟨rfl, rfl⟩ := ret_e hf
      exact v_iret C hr (by decide +kernel)
  · have hf := onul_s hf
    obtain ⟨hk_b28, hf⟩ := grd_e hf
    refine v_cVN C 7 rfl (ns_kd_lt hk_b25 (by decide)) hk_b25 (by decide) [.int x1] [] (c_World_muleAt G l σ b25 x1 hcr27) 120 1 tw_390 tw_387 tw_389 ts_7 tw_2 hd_World_muleAt rfl ⟨(Nat.le_of_ble_eq_true rfl), (Nat.le_of_ble_eq_true rfl)⟩ ⟨(Nat.le_of_ble_eq_true rfl), (Nat.le_of_ble_eq_true rfl)⟩ (Nat.le_of_ble_eq_true rfl) rfl 8 rfl (by decide +kernel) [.ref (G.1 + b28)] rfl ?_
    refine v_astore_n C 3 [(3, .ref (G.1 + b28)), (0, .ref (G.1 + a0)), (1, .int x1), (2, .int x2)] (by decide) rfl 9 rfl (by decide +kernel) ?_
    refine v_aload_n C 0 1 rfl 10 rfl (by decide +kernel) ?_
    obtain ⟨b37, hb37, hf⟩ := drf_e hf
    obtain ⟨hk_b37, hf⟩ := grd_e hf
    refine v_getR C 8 0 hb37 rfl nin_8 (ns_kd_lt hk_a0 (by decide)) hk_a0 (by decide) (by decide) rfl 12 tw_287 rfl 13 rfl (by decide +kernel) ?_
    refine v_iload_n C 2 3 rfl 14 rfl (by decide +kernel) ?_
    obtain ⟨r39, σ38, hcr39, hf⟩ := cl2_e hf
    rcases r39 with _ | b40
    · have hf := onul_n hf
      refine v_cVN C 7 rfl (ns_kd_lt hk_b37 (by decide)) hk_b37 (by decide) [.int x2] [] (c_World_muleAt G l σ26 b37 x2 hcr39) 120 1 tw_390 tw_387 tw_389 ts_7 tw_2 hd_World_muleAt rfl ⟨(Nat.le_of_ble_eq_true rfl), (Nat.le_of_ble_eq_true rfl)⟩ ⟨(Nat.le_of_ble_eq_true rfl), (Nat.le_of_ble_eq_true rfl)⟩ (Nat.le_of_ble_eq_true rfl) rfl 17 rfl (by decide +kernel) [.null] rfl ?_
      refine v_astoreN C 4 [(4, .null), (3, .ref (G.1 + b28)), (0, .ref (G.1 + a0)), (1, .int x1), (2, .int x2)] (by decide) rfl 19 rfl (by decide +kernel) ?_
      refine v_aload_n C 3 1 rfl 20 rfl (by decide +kernel) ?_
      refine v_ifnull C 33 23 rfl (by decide +kernel) ?_
      refine v_aloadN C 4 0 rfl 25 rfl (by decide +kernel) ?_
      refine v_ifnullN C 33 (by decide +kernel) ?_
      refine v_aload_n C 0 2 rfl 34 rfl (by decide +kernel) ?_
      refine v_bipush C (-2) (-2) (by decide) 36 rfl (by decide +kernel) ?_
      obtain ⟨r42, σ41, hcr42, hf⟩ := cl2_e hf
      refine v_cV C 8 rfl (ns_kd_lt hk_a0 (by decide)) hk_a0 (by decide) [.int (-2 : Int32)] [] (c_N_refuse G l σ38 a0 (-2 : Int32) hcr42) 79 1 tw_338 tw_335 tw_337 ts_1 tw_1 hd_N_refuse rfl ⟨(Nat.le_of_ble_eq_true rfl), (Nat.le_of_ble_eq_true rfl)⟩ ⟨(Nat.le_of_ble_eq_true rfl), (Nat.le_of_ble_eq_true rfl)⟩ (Nat.le_of_ble_eq_true rfl) rfl 39 rfl (by decide +kernel) [.int r42] rfl ?_
      obtain ⟨rfl, rfl⟩ := ret_e hf
      exact v_iret C hr (by decide +kernel)
    · have hf := onul_s hf
      obtain ⟨hk_b40, hf⟩ := grd_e hf
      refine v_cVN C 7 rfl (ns_kd_lt hk_b37 (by decide)) hk_b37 (by decide) [.int x2] [] (c_World_muleAt G l σ26 b37 x2 hcr39) 120 1 tw_390 tw_387 tw_389 ts_7 tw_2 hd_World_muleAt rfl ⟨(Nat.le_of_ble_eq_true rfl), (Nat.le_of_ble_eq_true rfl)⟩ ⟨(Nat.le_of_ble_eq_true rfl), (Nat.le_of_ble_eq_true rfl)⟩ (Nat.le_of_ble_eq_true rfl) rfl 17 rfl (by decide +kernel) [.ref (G.1 + b40)] rfl ?_
      refine v_astore C 4 [(4, .ref (G.1 + b40)), (3, .ref (G.1 + b28)), (0, .ref (G.1 + a0)), (1, .int x1), (2, .int x2)] (by decide) rfl 19 rfl (by decide +kernel) ?_
      refine v_aload_n C 3 1 rfl 20 rfl (by decide +kernel) ?_
      refine v_ifnull C 33 23 rfl (by decide +kernel) ?_
      refine v_aload C 4 0 rfl 25 rfl (by decide +kernel) ?_
      refine v_ifnull C 33 28 rfl (by decide +kernel) ?_
      refine v_iload_n C 1 3 rfl 29 rfl (by decide +kernel) ?_
      refine v_iload_n C 2 4 rfl 30 rfl (by decide +kernel) ?_
      refine v_icmp_ne C 40 33 rfl (by decide +kernel) (fun h43 => ?_) (fun h43 => ?_)
      · have hf := ite2_f hf h43
        refine v_aload_n C 0 2 rfl 41 rfl (by decide +kernel) ?_
        refine v_aload_n C 3 1 rfl 42 rfl (by decide +kernel) ?_
        refine v_aload C 4 0 rfl 44 rfl (by decide +kernel) ?_
        obtain ⟨r45, σ44, hcr45, hf⟩ := cl2_e hf
        refine v_cV C 8 rfl (ns_kd_lt hk_a0 (by decide)) hk_a0 (by decide) [.ref (G.1 + b28), .ref (G.1 + b40)] [] (c_N_firstTogether G l σ38 a0 b28 b40 hcr45) 262 2 tw_763 tw_760 tw_762 ts_46 tw_1 hd_N_firstTogether rfl ⟨(Nat.le_of_ble_eq_true rfl), (Nat.le_of_ble_eq_true rfl)⟩ ⟨(Nat.le_of_ble_eq_true rfl), (Nat.le_of_ble_eq_true rfl)⟩ (Nat.le_of_ble_eq_true rfl) rfl 47 rfl (by decide +kernel) [.int r45] rfl ?_
        refine v_istore C 5 [(5, .int r45), (4, .ref (G.1 + b40)), (3, .ref (G.1 + b28)), (0, .ref (G.1 + a0)), (1, .int x1), (2, .int x2)] (by decide) rfl 49 rfl (by decide +kernel) ?_
        refine v_iload C 5 0 rfl 51 rfl (by decide +kernel) ?_
        refine v_sipush C (400) (400) (by decide) 54 rfl (by decide +kernel) ?_
        refine v_icmp_le C 61 57 rfl (by decide +kernel) (fun h46 => ?_) (fun h46 => ?_)
        · have hf := ite2_t hf h46
          refine v_iload C 5 0 rfl 63 rfl (by decide +kernel) ?_
          obtain ⟨rfl, rfl⟩ := ret_e hf
          exact v_iret C hr (by decide +kernel)
        · have hf := ite2_f hf h46
          refine v_iconst C (-1) (-1) (by decide) 58 rfl (by decide +kernel) ?_
          refine v_goto C 63 (by decide +kernel) ?_
          obtain ⟨rfl, rfl⟩ := ret_e hf
          exact v_iret C hr (by decide +kernel)
      · have hf := ite2_t hf h43
        refine v_aload_n C 0 2 rfl 34 rfl (by decide +kernel) ?_
        refine v_bipush C (-2) (-2) (by decide) 36 rfl (by decide +kernel) ?_
        obtain ⟨r48, σ47, hcr48, hf⟩ := cl2_e hf
        refine v_cV C 8 rfl (ns_kd_lt hk_a0 (by decide)) hk_a0 (by decide) [.int (-2 : Int32)] [] (c_N_refuse G l σ38 a0 (-2 : Int32) hcr48) 79 1 tw_338 tw_335 tw_337 ts_1 tw_1 hd_N_refuse rfl ⟨(Nat.le_of_ble_eq_true rfl), (Nat.le_of_ble_eq_true rfl)⟩ ⟨(Nat.le_of_ble_eq_true rfl), (Nat.le_of_ble_eq_true rfl)⟩ (Nat.le_of_ble_eq_true rfl) rfl 39 rfl (by decide +kernel) [.int r48] rfl ?_
        obtain ⟨rfl, rfl⟩ := ret_e hf
        exact v_iret C hr (by decide +kernel)
theorem hd_N_meets : (⟨"NinthStep", "meets", "(II)I"⟩ : MethodName).cls = "NinthStep" ∧ (⟨"NinthStep", "meets", "(II)I"⟩ : MethodName).cls ≠ "java/lang/invoke/MethodHandle" ∧ (⟨"NinthStep", "meets", "(II)I"⟩ : MethodName).cls ≠ "java/lang/invoke/VarHandle" ∧ (parseMethodDescriptor (⟨"NinthStep", "meets", "(II)I"⟩ : MethodName).desc).map (fun d => d.parameters.length) = some 2 := by decide +kernel
def g_N_last_6  : Nat → ns_St → Nat → Int32 → Int32 → Int32 → Option (Int32 × ns_St)
  | 0, _, _, _, _, _ => none
  | f + 1, σ, a0, x1, x2, x3 => drf (σ.2.2 a0 0) fun b15 => grd (ns_kd b15 = 7) <| ite2 ((σ.1 b15 2) ≤ x3) (ite2 (x1 = (-1 : Int32)) (cl2 (g_N_refuse σ a0 (-5 : Int32)) fun r19 σ18 => some (r19, σ18)) (some (x1, σ))) (drf (σ.2.2 a0 0) fun b20 => grd (ns_kd b20 = 7) <| drf (σ.2.2 b20 1) fun b21 => grd (ns_kd b21 = 12) <| grd (ns_in x3 (ns_ln b21)) <| drf (σ.2.2 b21 (ns_ix x3)) fun b23 => grd (ns_kd b23 = 2) <| cl2 (g_N_minutesOf σ a0 b23) fun r25 σ24 => ite2 (r25 ≤ x2) (bnd (x3 + 1) fun z27 => (g_N_last_6 f) σ24 a0 x1 x2 z27) (bnd (x3 + 1) fun z28 => (g_N_last_6 f) σ24 a0 x3 r25 z28))
def g_N_last (σ : ns_St) (a0 : Nat) : Option (Int32 × ns_St) := grd (ns_kd a0 = 8) <| g_N_last_6 ns_F σ a0 (-1 : Int32) (-1 : Int32) (0 : Int32)
theorem t_N_last_6 (G : ns_G) (l : Launch) {p : Program} {e : Env} {s : State} {m : MethodId} {args : Array Value} {below : List Frame} {meth : Method} {c : Code} (C : ns_Cx G p s m args meth c prog_1_method_29_code "NinthStep" 5) (hr : meth.sig.returnType = (some .int)) {r : Int32} {σ' : ns_St}  : ∀ (f : Nat) (σ : ns_St) (a0 : Nat) (x1 : Int32) (x2 : Int32) (x3 : Int32) (hk_a0 : ns_kd a0 = 8), g_N_last_6 f σ a0 x1 x2 x3 = some (r, σ') → VV G p l e { frames := 5, cells := 0, slots := 0, locals := 114 } s m args below meth c 5 0 0 (MQ below (ns_Qc G (some (.int r)) ns_N σ') args s 0 0 (ns_A G)) ns_N σ 6 [(0, .ref (G.1 + a0)), (1, .int x1), (2, .int x2), (3, .int x3)] [] := by
  intro f
  induction f with
  | zero =>
    intro σ a0 x1 x2 x3 hk_a0 hf
    cases hf
  | succ f ih =>
    intro σ a0 x1 x2 x3 hk_a0 hf
    rw [g_N_last_6] at hf
    refine v_iload_n C 3 3 rfl 7 rfl (by decide +kernel) ?_
    refine v_aload_n C 0 0 rfl 8 rfl (by decide +kernel) ?_
    obtain ⟨b15, hb15, hf⟩ := drf_e hf
    obtain ⟨hk_b15, hf⟩ := grd_e hf
    refine v_getR C 8 0 hb15 rfl nin_8 (ns_kd_lt hk_a0 (by decide)) hk_a0 (by decide) (by decide) rfl 12 tw_287 rfl 11 rfl (by decide +kernel) ?_
    refine v_getIN C 7 2 rfl nin_7 (ns_kd_lt hk_b15 (by decide)) hk_b15 (by decide) (by decide) rfl 135 tw_135 rfl 14 rfl (by decide +kernel) ?_
    refine v_icmp_ge C 49 17 rfl (by decide +kernel) (fun h16 => ?_) (fun h16 => ?_)
    · have hf := ite2_t hf h16
      refine v_iload_n C 1 1 rfl 50 rfl (by decide +kernel) ?_
      refine v_iconst C (-1) (-1) (by decide) 51 rfl (by decide +kernel) ?_
      refine v_icmp_ne C 63 54 rfl (by decide +kernel) (fun h17 => ?_) (fun h17 => ?_)
      · have hf := ite2_f hf h17
        refine v_iload_n C 1 1 rfl 64 rfl (by decide +kernel) ?_
        obtain ⟨rfl, rfl⟩ := ret_e hf
        exact v_iret C hr (by decide +kernel)
      · have hf := ite2_t hf h17
        refine v_aload_n C 0 0 rfl 55 rfl (by decide +kernel) ?_
        refine v_bipush C (-5) (-5) (by decide) 57 rfl (by decide +kernel) ?_
        obtain ⟨r19, σ18, hcr19, hf⟩ := cl2_e hf
        refine v_cV C 8 rfl (ns_kd_lt hk_a0 (by decide)) hk_a0 (by decide) [.int (-5 : Int32)] [] (c_N_refuse G l σ a0 (-5 : Int32) hcr19) 79 1 tw_338 tw_335 tw_337 ts_1 tw_1 hd_N_refuse rfl ⟨(Nat.le_of_ble_eq_true rfl), (Nat.le_of_ble_eq_true rfl)⟩ ⟨(Nat.le_of_ble_eq_true rfl), (Nat.le_of_ble_eq_true rfl)⟩ (Nat.le_of_ble_eq_true rfl) rfl 60 rfl (by decide +kernel) [.int r19] rfl ?_
        refine v_goto C 64 (by decide +kernel) ?_
        obtain ⟨rfl, rfl⟩ := ret_e hf
        exact v_iret C hr (by decide +kernel)
    · have hf := ite2_f hf h16
      refine v_aload_n C 0 0 rfl 18 rfl (by decide +kernel) ?_
      refine v_aload_n C 0 0 rfl 19 rfl (by decide +kernel) ?_
      obtain ⟨b20, hb20, hf⟩ := drf_e hf
      obtain ⟨hk_b20, hf⟩ := grd_e hf
      refine v_getR C 8 0 hb20 rfl nin_8 (ns_kd_lt hk_a0 (by decide)) hk_a0 (by decide) (by decide) rfl 12 tw_287 rfl 22 rfl (by decide +kernel) ?_
      obtain ⟨b21, hb21, hf⟩ := drf_e hf
      obtain ⟨hk_b21, hf⟩ := grd_e hf
      refine v_getRN C 7 1 hb21 rfl nin_7 (ns_kd_lt hk_b20 (by decide)) hk_b20 (by decide) (by decide) rfl 266 tw_131 rfl 25 rfl (by decide +kernel) ?_
      refine v_iload_n C 3 3 rfl 26 rfl (by decide +kernel) ?_
      obtain ⟨hi22, hf⟩ := grd_e hf
      obtain ⟨b23, hb23, hf⟩ := drf_e hf
      obtain ⟨hk_b23, hf⟩ := grd_e hf
      refine v_aald C 12 (by decide) (ns_kd_lt hk_b21 (by decide)) hk_b21 hi22 hb23 27 rfl (by decide +kernel) ?_
      obtain ⟨r25, σ24, hcr25, hf⟩ := cl2_e hf
      refine v_cV C 8 rfl (ns_kd_lt hk_a0 (by decide)) hk_a0 (by decide) [.ref (G.1 + b23)] [] (c_N_minutesOf G l σ a0 b23 hcr25) 222 1 tw_672 tw_669 tw_671 ts_34 tw_1 hd_N_minutesOf rfl ⟨(Nat.le_of_ble_eq_true rfl), (Nat.le_of_ble_eq_true rfl)⟩ ⟨(Nat.le_of_ble_eq_true rfl), (Nat.le_of_ble_eq_true rfl)⟩ (Nat.le_of_ble_eq_true rfl) rfl 30 rfl (by decide +kernel) [.int r25] rfl ?_
      refine v_istore C 4 [(4, .int r25), (0, .ref (G.1 + a0)), (1, .int x1), (2, .int x2), (3, .int x3)] (by decide) rfl 32 rfl (by decide +kernel) ?_
      refine v_iload C 4 0 rfl 34 rfl (by decide +kernel) ?_
      refine v_iload_n C 2 3 rfl 35 rfl (by decide +kernel) ?_
      refine v_icmp_le C 43 38 rfl (by decide +kernel) (fun h26 => ?_) (fun h26 => ?_)
      · have hf := ite2_t hf h26
        obtain ⟨z27, hz27, hf⟩ := bnd_e hf
        refine v_iinc C 3 (1) 4 z27 rfl (by rw [hz27]; rfl) [(3, .int z27), (4, .int r25), (0, .ref (G.1 + a0)), (1, .int x1), (2, .int x2)] (by decide) rfl 46 rfl (by decide +kernel) ?_
        refine v_goto C 6 (by decide +kernel) ?_
        refine v_sub [2, 3, 4, 0] rfl ?_
        exact ih σ24 a0 x1 x2 z27 hk_a0 hf
      · have hf := ite2_f hf h26
        refine v_iload C 4 0 rfl 40 rfl (by decide +kernel) ?_
        refine v_istore_n C 2 [(2, .int r25), (4, .int r25), (0, .ref (G.1 + a0)), (1, .int x1), (3, .int x3)] (by decide) rfl 41 rfl (by decide +kernel) ?_
        refine v_iload_n C 3 4 rfl 42 rfl (by decide +kernel) ?_
        refine v_istore_n C 1 [(1, .int x3), (2, .int r25), (4, .int r25), (0, .ref (G.1 + a0)), (3, .int x3)] (by decide) rfl 43 rfl (by decide +kernel) ?_
        obtain ⟨z28, hz28, hf⟩ := bnd_e hf
        refine v_iinc C 3 (1) 4 z28 rfl (by rw [hz28]; rfl) [(3, .int z28), (1, .int x3), (2, .int r25), (4, .int r25), (0, .ref (G.1 + a0))] (by decide) rfl 46 rfl (by decide +kernel) ?_
        refine v_goto C 6 (by decide +kernel) ?_
        refine v_sub [4, 1, 2, 0] rfl ?_
        exact ih σ24 a0 x3 r25 z28 hk_a0 hf
theorem c_N_last (G : ns_G) (l : Launch) (σ : ns_St) (a0 : Nat) {r : Int32} {σ' : ns_St} (hf : g_N_last σ a0 = some (r, σ')) : ns_ok G l ⟨"NinthStep", "last", "()I"⟩ prog_1_method_29_code 5 (some .int) 5 114 0 0 [.ref (G.1 + a0)] ns_N σ (some (.int r)) ns_N σ' := by
  refine v_open (by decide) (Nat.le_of_ble_eq_true rfl) rfl ?_
  intro p e s m below meth c C hr _
  have C : ns_Cx G p s m _ meth c prog_1_method_29_code "NinthStep" 5 := C
  unfold g_N_last at hf
  obtain ⟨hk_a0, hf⟩ := grd_e hf
  refine v_iconst C (-1) (-1) (by decide) 1 rfl (by decide +kernel) ?_
  refine v_istore_n C 1 [(1, .int (-1 : Int32)), (0, .ref (G.1 + a0))] (by decide) rfl 2 rfl (by decide +kernel) ?_
  refine v_iconst C (-1) (-1) (by decide) 3 rfl (by decide +kernel) ?_
  refine v_istore_n C 2 [(2, .int (-1 : Int32)), (1, .int (-1 : Int32)), (0, .ref (G.1 + a0))] (by decide) rfl 4 rfl (by decide +kernel) ?_
  refine v_iconst C (0) (0) (by decide) 5 rfl (by decide +kernel) ?_
  refine v_istore_n C 3 [(3, .int (0 : Int32)), (2, .int (-1 : Int32)), (1, .int (-1 : Int32)), (0, .ref (G.1 + a0))] (by decide) rfl 6 rfl (by decide +kernel) ?_
  refine v_sub [3, 2, 1, 0] rfl ?_
  exact t_N_last_6 G l C hr  ns_F σ a0 (-1 : Int32) (-1 : Int32) (0 : Int32) hk_a0 hf
theorem hd_N_last : (⟨"NinthStep", "last", "()I"⟩ : MethodName).cls = "NinthStep" ∧ (⟨"NinthStep", "last", "()I"⟩ : MethodName).cls ≠ "java/lang/invoke/MethodHandle" ∧ (⟨"NinthStep", "last", "()I"⟩ : MethodName).cls ≠ "java/lang/invoke/VarHandle" ∧ (parseMethodDescriptor (⟨"NinthStep", "last", "()I"⟩ : MethodName).desc).map (fun d => d.parameters.length) = some 0 := by decide +kernel
def g_N_mulesTold_15  : Nat → ns_St → Nat → Nat → Int32 → Int32 → Int32 → Option (Int32 × ns_St)
  | 0, _, _, _, _, _, _ => none
  | f + 1, σ, a0, a1, x2, x3, x4 => ite2 (x2 ≤ x4) (some (x3, σ)) (cl2 (g_Shelf_cellAt σ a1 x4) fun r13 σ12 => ite2 ((lg_cmp r13 (0 : Int64)) < 0) (some ((-1 : Int32), σ12)) (drf (σ12.2.2 a0 0) fun b15 => grd (ns_kd b15 = 7) <| ite2 (0 ≤ (lg_cmp r13 ((σ12.1 b15 2).toInt64))) (some ((-1 : Int32), σ12)) (ite2 (((x3 >>> ((r13.toInt32) &&& 31)) &&& (1 : Int32)) = 0) (bnd (x3 ||| ((1 : Int32) <<< ((r13.toInt32) &&& 31))) fun z18 => bnd (x4 + 1) fun z19 => (g_N_mulesTold_15 f) σ12 a0 a1 x2 z18 z19) (some ((-1 : Int32), σ12)))))
def g_N_mulesTold (σ : ns_St) (a0 : Nat) (a1 : Nat) (x2 : Int32) : Option (Int32 × ns_St) := grd (ns_kd a0 = 8) <| grd (ns_kd a1 = 3) <| ite2 (x2 ≤ (σ.1 a1 1)) (g_N_mulesTold_15 ns_F σ a0 a1 x2 (0 : Int32) (0 : Int32)) (some ((-1 : Int32), σ))
theorem t_N_mulesTold_15 (G : ns_G) (l : Launch) {p : Program} {e : Env} {s : State} {m : MethodId} {args : Array Value} {below : List Frame} {meth : Method} {c : Code} (C : ns_Cx G p s m args meth c prog_1_method_59_code "NinthStep" 7) (hr : meth.sig.returnType = (some .int)) {r : Int32} {σ' : ns_St}  : ∀ (f : Nat) (σ : ns_St) (a0 : Nat) (a1 : Nat) (x2 : Int32) (x3 : Int32) (x4 : Int32) (hk_a0 : ns_kd a0 = 8) (hk_a1 : ns_kd a1 = 3), g_N_mulesTold_15 f σ a0 a1 x2 x3 x4 = some (r, σ') → VV G p l e { frames := 2, cells := 0, slots := 0, locals := 41 } s m args below meth c 7 0 0 (MQ below (ns_Qc G (some (.int r)) ns_N σ') args s 0 0 (ns_A G)) ns_N σ 15 [(0, .ref (G.1 + a0)), (1, .ref (G.1 + a1)), (2, .int x2), (3, .int x3), (4, .int x4)] [] := by
  intro f
  induction f with
  | zero =>
    intro σ a0 a1 x2 x3 x4 hk_a0 hk_a1 hf
    cases hf
  | succ f ih =>
    intro σ a0 a1 x2 x3 x4 hk_a0 hk_a1 hf
    rw [g_N_mulesTold_15] at hf
    refine v_iload C 4 4 rfl 17 rfl (by decide +kernel) ?_
    refine v_iload_n C 2 2 rfl 18 rfl (by decide +kernel) ?_
    refine v_icmp_ge C 76 21 rfl (by decide +kernel) (fun h11 => ?_) (fun h11 => ?_)
    · have hf := ite2_t hf h11
      refine v_iload_n C 3 3 rfl 77 rfl (by decide +kernel) ?_
      obtain ⟨rfl, rfl⟩ := ret_e hf
      exact v_iret C hr (by decide +kernel)
    · have hf := ite2_f hf h11
      refine v_aload_n C 1 1 rfl 22 rfl (by decide +kernel) ?_
      refine v_iload C 4 4 rfl 24 rfl (by decide +kernel) ?_
      obtain ⟨r13, σ12, hcr13, hf⟩ := cl2_e hf
      refine v_cVN C 3 rfl (ns_kd_lt hk_a1 (by decide)) hk_a1 (by decide) [.int x4] [] (c_Shelf_cellAt G l σ a1 x4 hcr13) 113 1 tw_377 tw_374 tw_376 ts_6 tw_9 hd_Shelf_cellAt rfl ⟨(Nat.le_of_ble_eq_true rfl), (Nat.le_of_ble_eq_true rfl)⟩ ⟨(Nat.le_of_ble_eq_true rfl), (Nat.le_of_ble_eq_true rfl)⟩ (Nat.le_of_ble_eq_true rfl) rfl 27 rfl (by decide +kernel) [.long r13] rfl ?_
      refine v_lstore C 5 [(5, .long r13), (0, .ref (G.1 + a0)), (1, .ref (G.1 + a1)), (2, .int x2), (3, .int x3), (4, .int x4)] (by decide) rfl 29 rfl (by decide +kernel) ?_
      refine v_lload C 5 0 rfl 31 rfl (by decide +kernel) ?_
      refine v_lconst C 0 (0) (by decide) 32 rfl (by decide +kernel) ?_
      refine v_lcmp C 33 rfl (by decide +kernel) ?_
      refine v_if_lt C 60 36 rfl (by decide +kernel) (fun h14 => ?_) (fun h14 => ?_)
      · have hf := ite2_t hf h14
        refine v_iconst C (-1) (-1) (by decide) 61 rfl (by decide +kernel) ?_
        obtain ⟨rfl, rfl⟩ := ret_e hf
        exact v_iret C hr (by decide +kernel)
      · have hf := ite2_f hf h14
        refine v_lload C 5 0 rfl 38 rfl (by decide +kernel) ?_
        refine v_aload_n C 0 1 rfl 39 rfl (by decide +kernel) ?_
        obtain ⟨b15, hb15, hf⟩ := drf_e hf
        obtain ⟨hk_b15, hf⟩ := grd_e hf
        refine v_getR C 8 0 hb15 rfl nin_8 (ns_kd_lt hk_a0 (by decide)) hk_a0 (by decide) (by decide) rfl 12 tw_287 rfl 42 rfl (by decide +kernel) ?_
        refine v_getIN C 7 2 rfl nin_7 (ns_kd_lt hk_b15 (by decide)) hk_b15 (by decide) (by decide) rfl 135 tw_135 rfl 45 rfl (by decide +kernel) ?_
        refine v_i2l C 46 rfl (by decide +kernel) ?_
        refine v_lcmp C 47 rfl (by decide +kernel) ?_
        refine v_if_ge C 60 50 rfl (by decide +kernel) (fun h16 => ?_) (fun h16 => ?_)
        · have hf := ite2_t hf h16
          refine v_iconst C (-1) (-1) (by decide) 61 rfl (by decide +kernel) ?_
          obtain ⟨rfl, rfl⟩ := ret_e hf
          exact v_iret C hr (by decide +kernel)
        · have hf := ite2_f hf h16
          refine v_iload_n C 3 4 rfl 51 rfl (by decide +kernel) ?_
          refine v_lload C 5 0 rfl 53 rfl (by decide +kernel) ?_
          refine v_l2i C 54 rfl (by decide +kernel) ?_
          refine v_ishr C 55 rfl (by decide +kernel) ?_
          refine v_iconst C (1) (1) (by decide) 56 rfl (by decide +kernel) ?_
          refine v_iand C 57 rfl (by decide +kernel) ?_
          refine v_if_eq C 62 60 rfl (by decide +kernel) (fun h17 => ?_) (fun h17 => ?_)
          · have hf := ite2_t hf h17
            refine v_iload_n C 3 4 rfl 63 rfl (by decide +kernel) ?_
            refine v_iconst C (1) (1) (by decide) 64 rfl (by decide +kernel) ?_
            refine v_lload C 5 0 rfl 66 rfl (by decide +kernel) ?_
            refine v_l2i C 67 rfl (by decide +kernel) ?_
            refine v_ishl C 68 rfl (by decide +kernel) ?_
            refine v_ior C 69 rfl (by decide +kernel) ?_
            obtain ⟨z18, hz18, hf⟩ := bnd_e hf
            refine v_nmI hz18 ?_
            refine v_istore_n C 3 [(3, .int z18), (5, .long r13), (0, .ref (G.1 + a0)), (1, .ref (G.1 + a1)), (2, .int x2), (4, .int x4)] (by decide) rfl 70 rfl (by decide +kernel) ?_
            obtain ⟨z19, hz19, hf⟩ := bnd_e hf
            refine v_iinc C 4 (1) 5 z19 rfl (by rw [hz19]; rfl) [(4, .int z19), (3, .int z18), (5, .long r13), (0, .ref (G.1 + a0)), (1, .ref (G.1 + a1)), (2, .int x2)] (by decide) rfl 73 rfl (by decide +kernel) ?_
            refine v_goto C 15 (by decide +kernel) ?_
            refine v_sub [3, 4, 5, 1, 0] rfl ?_
            exact ih σ12 a0 a1 x2 z18 z19 hk_a0 hk_a1 hf
          · have hf := ite2_f hf h17
            refine v_iconst C (-1) (-1) (by decide) 61 rfl (by decide +kernel) ?_
            obtain ⟨rfl, rfl⟩ := ret_e hf
            exact v_iret C hr (by decide +kernel)
theorem c_N_mulesTold (G : ns_G) (l : Launch) (σ : ns_St) (a0 : Nat) (a1 : Nat) (x2 : Int32) {r : Int32} {σ' : ns_St} (hf : g_N_mulesTold σ a0 a1 x2 = some (r, σ')) : ns_ok G l ⟨"NinthStep", "mulesTold", "(LNinthStep$Shelf;I)I"⟩ prog_1_method_59_code 7 (some .int) 2 41 0 0 [.ref (G.1 + a0), .ref (G.1 + a1), .int x2] ns_N σ (some (.int r)) ns_N σ' := by
  refine v_open (by decide) (Nat.le_of_ble_eq_true rfl) rfl ?_
  intro p e s m below meth c C hr _
  have C : ns_Cx G p s m _ meth c prog_1_method_59_code "NinthStep" 7 := C
  unfold g_N_mulesTold at hf
  obtain ⟨hk_a0, hf⟩ := grd_e hf
  obtain ⟨hk_a1, hf⟩ := grd_e hf
  refine v_aload_n C 1 1 rfl 1 rfl (by decide +kernel) ?_
  refine v_getIN C 3 1 rfl nin_3 (ns_kd_lt hk_a1 (by decide)) hk_a1 (by decide) (by decide) rfl 91 tw_277 rfl 4 rfl (by decide +kernel) ?_
  refine v_iload_n C 2 2 rfl 5 rfl (by decide +kernel) ?_
  refine v_icmp_ge C 10 8 rfl (by decide +kernel) (fun h20 => ?_) (fun h20 => ?_)
  · have hf := ite2_t hf h20
    refine v_iconst C (0) (0) (by decide) 11 rfl (by decide +kernel) ?_
    refine v_istore_n C 3 [(3, .int (0 : Int32)), (0, .ref (G.1 + a0)), (1, .ref (G.1 + a1)), (2, .int x2)] (by decide) rfl 12 rfl (by decide +kernel) ?_
    refine v_iconst C (0) (0) (by decide) 13 rfl (by decide +kernel) ?_
    refine v_istore C 4 [(4, .int (0 : Int32)), (3, .int (0 : Int32)), (0, .ref (G.1 + a0)), (1, .ref (G.1 + a1)), (2, .int x2)] (by decide) rfl 15 rfl (by decide +kernel) ?_
    refine v_sub [2, 3, 4, 1, 0] rfl ?_
    exact t_N_mulesTold_15 G l C hr  ns_F σ a0 a1 x2 (0 : Int32) (0 : Int32) hk_a0 hk_a1 hf
  · have hf := ite2_f hf h20
    refine v_iconst C (-1) (-1) (by decide) 9 rfl (by decide +kernel) ?_
    obtain ⟨rfl, rfl⟩ := ret_e hf
    exact v_iret C hr (by decide +kernel)
theorem hd_N_mulesTold : (⟨"NinthStep", "mulesTold", "(LNinthStep$Shelf;I)I"⟩ : MethodName).cls = "NinthStep" ∧ (⟨"NinthStep", "mulesTold", "(LNinthStep$Shelf;I)I"⟩ : MethodName).cls ≠ "java/lang/invoke/MethodHandle" ∧ (⟨"NinthStep", "mulesTold", "(LNinthStep$Shelf;I)I"⟩ : MethodName).cls ≠ "java/lang/invoke/VarHandle" ∧ (parseMethodDescriptor (⟨"NinthStep", "mulesTold", "(LNinthStep$Shelf;I)I"⟩ : MethodName).desc).map (fun d => d.parameters.length) = some 2 := by decide +kernel
def g_N_placesOfTrain_51  : Nat → ns_St → Nat → Int32 → Int32 → Int64 → Int32 → Option (Int32 × ns_St)
  | 0, _, _, _, _, _, _ => none
  | f + 1, σ, a0, x1, x2, x3, x5 => drf (σ.2.2 a0 0) fun b26 => grd (ns_kd b26 = 7) <| ite2 ((σ.1 b26 2) ≤ x5) (cl2 (g_Long_bitCount σ x3) fun r29 σ28 => some (r29, σ28)) (ite2 (((x1 >>> (x5 &&& 31)) &&& (1 : Int32)) = 0) (bnd (x5 + 1) fun z31 => (g_N_placesOfTrain_51 f) σ a0 x1 x2 x3 z31) (drf (σ.2.2 a0 0) fun b32 => grd (ns_kd b32 = 7) <| drf (σ.2.2 b32 1) fun b33 => grd (ns_kd b33 = 12) <| grd (ns_in x5 (ns_ln b33)) <| drf (σ.2.2 b33 (ns_ix x5)) fun b35 => grd (ns_kd b35 = 2) <| cl2 (g_N_stopsBy σ a0 b35 x2 (σ.1 b35 1) (σ.1 b35 3)) fun r37 σ36 => bnd (x3 ||| r37) fun z38 => bnd (x5 + 1) fun z39 => (g_N_placesOfTrain_51 f) σ36 a0 x1 x2 z38 z39))
def g_N_placesOfTrain_4  : Nat → ns_St → Nat → Int32 → Int32 → Int32 → Option (Int32 × ns_St)
  | 0, _, _, _, _, _ => none
  | f + 1, σ, a0, x1, x2, x3 => drf (σ.2.2 a0 0) fun b40 => grd (ns_kd b40 = 7) <| ite2 ((σ.1 b40 2) ≤ x3) (g_N_placesOfTrain_51 ns_F σ a0 x1 x2 (0 : Int64) (0 : Int32)) (ite2 (((x1 >>> (x3 &&& 31)) &&& (1 : Int32)) = 0) (bnd (x3 + 1) fun z43 => (g_N_placesOfTrain_4 f) σ a0 x1 x2 z43) (drf (σ.2.2 a0 0) fun b44 => grd (ns_kd b44 = 7) <| drf (σ.2.2 b44 1) fun b45 => grd (ns_kd b45 = 12) <| grd (ns_in x3 (ns_ln b45)) <| drf (σ.2.2 b45 (ns_ix x3)) fun b47 => grd (ns_kd b47 = 2) <| cl2 (g_Math_max σ x2 (σ.1 b47 2)) fun r49 σ48 => bnd (x3 + 1) fun z50 => (g_N_placesOfTrain_4 f) σ48 a0 x1 r49 z50))
def g_N_placesOfTrain (σ : ns_St) (a0 : Nat) (x1 : Int32) : Option (Int32 × ns_St) := grd (ns_kd a0 = 8) <| g_N_placesOfTrain_4 ns_F σ a0 x1 (0 : Int32) (0 : Int32)
theorem t_N_placesOfTrain_51 (G : ns_G) (l : Launch) {p : Program} {e : Env} {s : State} {m : MethodId} {args : Array Value} {below : List Frame} {meth : Method} {c : Code} (C : ns_Cx G p s m args meth c prog_1_method_60_code "NinthStep" 7) (hr : meth.sig.returnType = (some .int)) {r : Int32} {σ' : ns_St}  : ∀ (f : Nat) (σ : ns_St) (a0 : Nat) (x1 : Int32) (x2 : Int32) (x3 : Int64) (x5 : Int32) (hk_a0 : ns_kd a0 = 8), g_N_placesOfTrain_51 f σ a0 x1 x2 x3 x5 = some (r, σ') → VV G p l e { frames := 3, cells := 0, slots := 0, locals := 72 } s m args below meth c 7 0 0 (MQ below (ns_Qc G (some (.int r)) ns_N σ') args s 0 0 (ns_A G)) ns_N σ 51 [(0, .ref (G.1 + a0)), (1, .int x1), (2, .int x2), (3, .long x3), (5, .int x5)] [] := by
  intro f
  induction f with
  | zero =>
    intro σ a0 x1 x2 x3 x5 hk_a0 hf
    cases hf
  | succ f ih =>
    intro σ a0 x1 x2 x3 x5 hk_a0 hf
    rw [g_N_placesOfTrain_51] at hf
    refine v_iload C 5 4 rfl 53 rfl (by decide +kernel) ?_
    refine v_aload_n C 0 0 rfl 54 rfl (by decide +kernel) ?_
    obtain ⟨b26, hb26, hf⟩ := drf_e hf
    obtain ⟨hk_b26, hf⟩ := grd_e hf
    refine v_getR C 8 0 hb26 rfl nin_8 (ns_kd_lt hk_a0 (by decide)) hk_a0 (by decide) (by decide) rfl 12 tw_287 rfl 57 rfl (by decide +kernel) ?_
    refine v_getIN C 7 2 rfl nin_7 (ns_kd_lt hk_b26 (by decide)) hk_b26 (by decide) (by decide) rfl 135 tw_135 rfl 60 rfl (by decide +kernel) ?_
    refine v_icmp_ge C 110 63 rfl (by decide +kernel) (fun h27 => ?_) (fun h27 => ?_)
    · have hf := ite2_t hf h27
      refine v_lload_n C 3 3 rfl 111 rfl (by decide +kernel) ?_
      obtain ⟨r29, σ28, hcr29, hf⟩ := cl2_e hf
      refine v_cS C [.long x3] [] (c_Long_bitCount G l σ x3 hcr29) 213 1 tw_410 tw_408 tw_409 tw_12 hd_Long_bitCount rfl ⟨(Nat.le_of_ble_eq_true rfl), (Nat.le_of_ble_eq_true rfl)⟩ ⟨(Nat.le_of_ble_eq_true rfl), (Nat.le_of_ble_eq_true rfl)⟩ (Nat.le_of_ble_eq_true rfl) rfl 114 rfl (by decide +kernel) [.int r29] rfl ?_
      obtain ⟨rfl, rfl⟩ := ret_e hf
      exact v_iret C hr (by decide +kernel)
    · have hf := ite2_f hf h27
      refine v_iload_n C 1 1 rfl 64 rfl (by decide +kernel) ?_
      refine v_iload C 5 4 rfl 66 rfl (by decide +kernel) ?_
      refine v_ishr C 67 rfl (by decide +kernel) ?_
      refine v_iconst C (1) (1) (by decide) 68 rfl (by decide +kernel) ?_
      refine v_iand C 69 rfl (by decide +kernel) ?_
      refine v_if_eq C 104 72 rfl (by decide +kernel) (fun h30 => ?_) (fun h30 => ?_)
      · have hf := ite2_t hf h30
        obtain ⟨z31, hz31, hf⟩ := bnd_e hf
        refine v_iinc C 5 (1) 4 z31 rfl (by rw [hz31]; rfl) [(5, .int z31), (0, .ref (G.1 + a0)), (1, .int x1), (2, .int x2), (3, .long x3)] (by decide) rfl 107 rfl (by decide +kernel) ?_
        refine v_goto C 51 (by decide +kernel) ?_
        refine v_sub [1, 2, 3, 4, 0] rfl ?_
        exact ih σ a0 x1 x2 x3 z31 hk_a0 hf
      · have hf := ite2_f hf h30
        refine v_aload_n C 0 0 rfl 73 rfl (by decide +kernel) ?_
        obtain ⟨b32, hb32, hf⟩ := drf_e hf
        obtain ⟨hk_b32, hf⟩ := grd_e hf
        refine v_getR C 8 0 hb32 rfl nin_8 (ns_kd_lt hk_a0 (by decide)) hk_a0 (by decide) (by decide) rfl 12 tw_287 rfl 76 rfl (by decide +kernel) ?_
        obtain ⟨b33, hb33, hf⟩ := drf_e hf
        obtain ⟨hk_b33, hf⟩ := grd_e hf
        refine v_getRN C 7 1 hb33 rfl nin_7 (ns_kd_lt hk_b32 (by decide)) hk_b32 (by decide) (by decide) rfl 266 tw_131 rfl 79 rfl (by decide +kernel) ?_
        refine v_iload C 5 4 rfl 81 rfl (by decide +kernel) ?_
        obtain ⟨hi34, hf⟩ := grd_e hf
        obtain ⟨b35, hb35, hf⟩ := drf_e hf
        obtain ⟨hk_b35, hf⟩ := grd_e hf
        refine v_aald C 12 (by decide) (ns_kd_lt hk_b33 (by decide)) hk_b33 hi34 hb35 82 rfl (by decide +kernel) ?_
        refine v_astore C 6 [(6, .ref (G.1 + b35)), (0, .ref (G.1 + a0)), (1, .int x1), (2, .int x2), (3, .long x3), (5, .int x5)] (by decide) rfl 84 rfl (by decide +kernel) ?_
        refine v_lload_n C 3 4 rfl 85 rfl (by decide +kernel) ?_
        refine v_aload_n C 0 1 rfl 86 rfl (by decide +kernel) ?_
        refine v_aload C 6 0 rfl 88 rfl (by decide +kernel) ?_
        refine v_iload_n C 2 3 rfl 89 rfl (by decide +kernel) ?_
        refine v_aload C 6 0 rfl 91 rfl (by decide +kernel) ?_
        refine v_getIN C 2 1 rfl nin_2 (ns_kd_lt hk_b35 (by decide)) hk_b35 (by decide) (by decide) rfl 176 tw_86 rfl 94 rfl (by decide +kernel) ?_
        refine v_aload C 6 0 rfl 96 rfl (by decide +kernel) ?_
        refine v_getIN C 2 3 rfl nin_2 (ns_kd_lt hk_b35 (by decide)) hk_b35 (by decide) (by decide) rfl 182 tw_97 rfl 99 rfl (by decide +kernel) ?_
        obtain ⟨r37, σ36, hcr37, hf⟩ := cl2_e hf
        refine v_cV C 8 rfl (ns_kd_lt hk_a0 (by decide)) hk_a0 (by decide) [.ref (G.1 + b35), .int x2, .int (σ.1 b35 1), .int (σ.1 b35 3)] [.long x3] (c_N_stopsBy G l σ a0 b35 x2 (σ.1 b35 1) (σ.1 b35 3) hcr37) 258 4 tw_647 tw_644 tw_646 ts_30 tw_1 hd_N_stopsBy rfl ⟨(Nat.le_of_ble_eq_true rfl), (Nat.le_of_ble_eq_true rfl)⟩ ⟨(Nat.le_of_ble_eq_true rfl), (Nat.le_of_ble_eq_true rfl)⟩ (Nat.le_of_ble_eq_true rfl) rfl 102 rfl (by decide +kernel) [.long r37, .long x3] rfl ?_
        refine v_lor C 103 rfl (by decide +kernel) ?_
        obtain ⟨z38, hz38, hf⟩ := bnd_e hf
        refine v_nmJ hz38 ?_
        refine v_lstore_n C 3 [(3, .long z38), (6, .ref (G.1 + b35)), (0, .ref (G.1 + a0)), (1, .int x1), (2, .int x2), (5, .int x5)] (by decide) rfl 104 rfl (by decide +kernel) ?_
        obtain ⟨z39, hz39, hf⟩ := bnd_e hf
        refine v_iinc C 5 (1) 5 z39 rfl (by rw [hz39]; rfl) [(5, .int z39), (3, .long z38), (6, .ref (G.1 + b35)), (0, .ref (G.1 + a0)), (1, .int x1), (2, .int x2)] (by decide) rfl 107 rfl (by decide +kernel) ?_
        refine v_goto C 51 (by decide +kernel) ?_
        refine v_sub [3, 4, 5, 1, 0] rfl ?_
        exact ih σ36 a0 x1 x2 z38 z39 hk_a0 hf
theorem t_N_placesOfTrain_4 (G : ns_G) (l : Launch) {p : Program} {e : Env} {s : State} {m : MethodId} {args : Array Value} {below : List Frame} {meth : Method} {c : Code} (C : ns_Cx G p s m args meth c prog_1_method_60_code "NinthStep" 7) (hr : meth.sig.returnType = (some .int)) {r : Int32} {σ' : ns_St}  : ∀ (f : Nat) (σ : ns_St) (a0 : Nat) (x1 : Int32) (x2 : Int32) (x3 : Int32) (hk_a0 : ns_kd a0 = 8), g_N_placesOfTrain_4 f σ a0 x1 x2 x3 = some (r, σ') → VV G p l e { frames := 3, cells := 0, slots := 0, locals := 72 } s m args below meth c 7 0 0 (MQ below (ns_Qc G (some (.int r)) ns_N σ') args s 0 0 (ns_A G)) ns_N σ 4 [(0, .ref (G.1 + a0)), (1, .int x1), (2, .int x2), (3, .int x3)] [] := by
  intro f
  induction f with
  | zero =>
    intro σ a0 x1 x2 x3 hk_a0 hf
    cases hf
  | succ f ih =>
    intro σ a0 x1 x2 x3 hk_a0 hf
    rw [g_N_placesOfTrain_4] at hf
    refine v_iload_n C 3 3 rfl 5 rfl (by decide +kernel) ?_
    refine v_aload_n C 0 0 rfl 6 rfl (by decide +kernel) ?_
    obtain ⟨b40, hb40, hf⟩ := drf_e hf
    obtain ⟨hk_b40, hf⟩ := grd_e hf
    refine v_getR C 8 0 hb40 rfl nin_8 (ns_kd_lt hk_a0 (by decide)) hk_a0 (by decide) (by decide) rfl 12 tw_287 rfl 9 rfl (by decide +kernel) ?_
    refine v_getIN C 7 2 rfl nin_7 (ns_kd_lt hk_b40 (by decide)) hk_b40 (by decide) (by decide) rfl 135 tw_135 rfl 12 rfl (by decide +kernel) ?_
    refine v_icmp_ge C 46 15 rfl (by decide +kernel) (fun h41 => ?_) (fun h41 => ?_)
    · have hf := ite2_t hf h41
      refine v_lconst C 0 (0) (by decide) 47 rfl (by decide +kernel) ?_
      refine v_lstore_n C 3 [(3, .long (0 : Int64)), (0, .ref (G.1 + a0)), (1, .int x1), (2, .int x2)] (by decide) rfl 48 rfl (by decide +kernel) ?_
      refine v_iconst C (0) (0) (by decide) 49 rfl (by decide +kernel) ?_
      refine v_istore C 5 [(5, .int (0 : Int32)), (3, .long (0 : Int64)), (0, .ref (G.1 + a0)), (1, .int x1), (2, .int x2)] (by decide) rfl 51 rfl (by decide +kernel) ?_
      refine v_sub [2, 3, 4, 1, 0] rfl ?_
      exact t_N_placesOfTrain_51 G l C hr  ns_F σ a0 x1 x2 (0 : Int64) (0 : Int32) hk_a0 hf
    · have hf := ite2_f hf h41
      refine v_iload_n C 1 1 rfl 16 rfl (by decide +kernel) ?_
      refine v_iload_n C 3 3 rfl 17 rfl (by decide +kernel) ?_
      refine v_ishr C 18 rfl (by decide +kernel) ?_
      refine v_iconst C (1) (1) (by decide) 19 rfl (by decide +kernel) ?_
      refine v_iand C 20 rfl (by decide +kernel) ?_
      refine v_if_eq C 40 23 rfl (by decide +kernel) (fun h42 => ?_) (fun h42 => ?_)
      · have hf := ite2_t hf h42
        obtain ⟨z43, hz43, hf⟩ := bnd_e hf
        refine v_iinc C 3 (1) 3 z43 rfl (by rw [hz43]; rfl) [(3, .int z43), (0, .ref (G.1 + a0)), (1, .int x1), (2, .int x2)] (by decide) rfl 43 rfl (by decide +kernel) ?_
        refine v_goto C 4 (by decide +kernel) ?_
        refine v_sub [1, 2, 3, 0] rfl ?_
        exact ih σ a0 x1 x2 z43 hk_a0 hf
      · have hf := ite2_f hf h42
        refine v_iload_n C 2 2 rfl 24 rfl (by decide +kernel) ?_
        refine v_aload_n C 0 0 rfl 25 rfl (by decide +kernel) ?_
        obtain ⟨b44, hb44, hf⟩ := drf_e hf
        obtain ⟨hk_b44, hf⟩ := grd_e hf
        refine v_getR C 8 0 hb44 rfl nin_8 (ns_kd_lt hk_a0 (by decide)) hk_a0 (by decide) (by decide) rfl 12 tw_287 rfl 28 rfl (by decide +kernel) ?_
        obtain ⟨b45, hb45, hf⟩ := drf_e hf
        obtain ⟨hk_b45, hf⟩ := grd_e hf
        refine v_getRN C 7 1 hb45 rfl nin_7 (ns_kd_lt hk_b44 (by decide)) hk_b44 (by decide) (by decide) rfl 266 tw_131 rfl 31 rfl (by decide +kernel) ?_
        refine v_iload_n C 3 3 rfl 32 rfl (by decide +kernel) ?_
        obtain ⟨hi46, hf⟩ := grd_e hf
        obtain ⟨b47, hb47, hf⟩ := drf_e hf
        obtain ⟨hk_b47, hf⟩ := grd_e hf
        refine v_aald C 12 (by decide) (ns_kd_lt hk_b45 (by decide)) hk_b45 hi46 hb47 33 rfl (by decide +kernel) ?_
        refine v_getIN C 2 2 rfl nin_2 (ns_kd_lt hk_b47 (by decide)) hk_b47 (by decide) (by decide) rfl 179 tw_93 rfl 36 rfl (by decide +kernel) ?_
        obtain ⟨r49, σ48, hcr49, hf⟩ := cl2_e hf
        refine v_cS C [.int x2, .int (σ.1 b47 2)] [] (c_Math_max G l σ x2 (σ.1 b47 2) hcr49) 252 2 tw_598 tw_755 tw_597 tw_18 hd_Math_max rfl ⟨(Nat.le_of_ble_eq_true rfl), (Nat.le_of_ble_eq_true rfl)⟩ ⟨(Nat.le_of_ble_eq_true rfl), (Nat.le_of_ble_eq_true rfl)⟩ (Nat.le_of_ble_eq_true rfl) rfl 39 rfl (by decide +kernel) [.int r49] rfl ?_
        refine v_istore_n C 2 [(2, .int r49), (0, .ref (G.1 + a0)), (1, .int x1), (3, .int x3)] (by decide) rfl 40 rfl (by decide +kernel) ?_
        obtain ⟨z50, hz50, hf⟩ := bnd_e hf
        refine v_iinc C 3 (1) 3 z50 rfl (by rw [hz50]; rfl) [(3, .int z50), (2, .int r49), (0, .ref (G.1 + a0)), (1, .int x1)] (by decide) rfl 43 rfl (by decide +kernel) ?_
        refine v_goto C 4 (by decide +kernel) ?_
        refine v_sub [2, 3, 1, 0] rfl ?_
        exact ih σ48 a0 x1 r49 z50 hk_a0 hf
theorem c_N_placesOfTrain (G : ns_G) (l : Launch) (σ : ns_St) (a0 : Nat) (x1 : Int32) {r : Int32} {σ' : ns_St} (hf : g_N_placesOfTrain σ a0 x1 = some (r, σ')) : ns_ok G l ⟨"NinthStep", "placesOfTrain", "(I)I"⟩ prog_1_method_60_code 7 (some .int) 3 72 0 0 [.ref (G.1 + a0), .int x1] ns_N σ (some (.int r)) ns_N σ' := by
  refine v_open (by decide) (Nat.le_of_ble_eq_true rfl) rfl ?_
  intro p e s m below meth c C hr _
  have C : ns_Cx G p s m _ meth c prog_1_method_60_code "NinthStep" 7 := C
  unfold g_N_placesOfTrain at hf
  obtain ⟨hk_a0, hf⟩ := grd_e hf
  refine v_iconst C (0) (0) (by decide) 1 rfl (by decide +kernel) ?_
  refine v_istore_n C 2 [(2, .int (0 : Int32)), (0, .ref (G.1 + a0)), (1, .int x1)] (by decide) rfl 2 rfl (by decide +kernel) ?_
  refine v_iconst C (0) (0) (by decide) 3 rfl (by decide +kernel) ?_
  refine v_istore_n C 3 [(3, .int (0 : Int32)), (2, .int (0 : Int32)), (0, .ref (G.1 + a0)), (1, .int x1)] (by decide) rfl 4 rfl (by decide +kernel) ?_
  refine v_sub [2, 3, 1, 0] rfl ?_
  exact t_N_placesOfTrain_4 G l C hr  ns_F σ a0 x1 (0 : Int32) (0 : Int32) hk_a0 hf
theorem hd_N_placesOfTrain : (⟨"NinthStep", "placesOfTrain", "(I)I"⟩ : MethodName).cls = "NinthStep" ∧ (⟨"NinthStep", "placesOfTrain", "(I)I"⟩ : MethodName).cls ≠ "java/lang/invoke/MethodHandle" ∧ (⟨"NinthStep", "placesOfTrain", "(I)I"⟩ : MethodName).cls ≠ "java/lang/invoke/VarHandle" ∧ (parseMethodDescriptor (⟨"NinthStep", "placesOfTrain", "(I)I"⟩ : MethodName).desc).map (fun d => d.parameters.length) = some 1 := by decide +kernel
def g_N_train (σ : ns_St) (a0 : Nat) (x1 : Int32) (x2 : Int32) : Option (Int32 × ns_St) := grd (ns_kd a0 = 8) <| cl2 (g_N_shelfAt σ a0 x1) fun r24 σ23 => onul r24 (cl2 (g_N_refuse σ23 a0 (-2 : Int32)) fun r27 σ26 => some (r27, σ26)) (fun b25 => grd (ns_kd b25 = 3) <| cl2 (g_N_isWithin σ23 x2 (1 : Int32) (6 : Int32)) fun r29 σ28 => ite2 (r29 = 0) (cl2 (g_N_refuse σ28 a0 (-2 : Int32)) fun r44 σ43 => some (r44, σ43)) (cl2 (g_Shelf_troubleAsRow σ28 b25) fun r32 σ31 => ite2 (r32 = 0) (cl2 (g_N_mulesTold σ31 a0 b25 x2) fun r35 σ34 => ite2 (r35 = (-1 : Int32)) (cl2 (g_N_refuse σ34 a0 (-2 : Int32)) fun r40 σ39 => some (r40, σ39)) (cl2 (g_N_placesOfTrain σ34 a0 r35) fun r38 σ37 => some (r38, σ37))) (cl2 (g_N_refuse σ31 a0 r32) fun r42 σ41 => some (r42, σ41))))
theorem c_N_train (G : ns_G) (l : Launch) (σ : ns_St) (a0 : Nat) (x1 : Int32) (x2 : Int32) {r : Int32} {σ' : ns_St} (hf : g_N_train σ a0 x1 x2 = some (r, σ')) : ns_ok G l ⟨"NinthStep", "train", "(II)I"⟩ prog_1_method_30_code 6 (some .int) 4 98 0 0 [.ref (G.1 + a0), .int x1, .int x2] ns_N σ (some (.int r)) ns_N σ' := by
  refine v_open (by decide) (Nat.le_of_ble_eq_true rfl) rfl ?_
  intro p e s m below meth c C hr _
  have C : ns_Cx G p s m _ meth c prog_1_method_30_code "NinthStep" 6 := C
  unfold g_N_train at hf
  obtain ⟨hk_a0, hf⟩ := grd_e hf
  refine v_aload_n C 0 0 rfl 1 rfl (by decide +kernel) ?_
  refine v_iload_n C 1 1 rfl 2 rfl (by decide +kernel) ?_
  obtain ⟨r24, σ23, hcr24, hf⟩ := cl2_e hf
  rcases r24 with _ | b25
  · have hf := onul_n hf
    refine v_cV C 8 rfl (ns_kd_lt hk_a0 (by decide)) hk_a0 (by decide) [.int x1] [] (c_N_shelfAt G l σ a0 x1 hcr24) 71 1 tw_331 tw_328 tw_330 ts_0 tw_1 hd_N_shelfAt rfl ⟨(Nat.le_of_ble_eq_true rfl), (Nat.le_of_ble_eq_true rfl)⟩ ⟨(Nat.le_of_ble_eq_true rfl), (Nat.le_of_ble_eq_true rfl)⟩ (Nat.le_of_ble_eq_true rfl) rfl 5 rfl (by decide +kernel) [.null] rfl ?_
    refine v_astore_nN C 3 [(3, .null), (0, .ref (G.1 + a0)), (1, .int x1), (2, .int x2)] (by decide) rfl 6 rfl (by decide +kernel) ?_
    refine v_aload_nN C 3 0 rfl 7 rfl (by decide +kernel) ?_
    refine v_ifnullN C 20 (by decide +kernel) ?_
    refine v_aload_n C 0 1 rfl 21 rfl (by decide +kernel) ?_
    refine v_bipush C (-2) (-2) (by decide) 23 rfl (by decide +kernel) ?_
    obtain ⟨r27, σ26, hcr27, hf⟩ := cl2_e hf
    refine v_cV C 8 rfl (ns_kd_lt hk_a0 (by decide)) hk_a0 (by decide) [.int (-2 : Int32)] [] (c_N_refuse G l σ23 a0 (-2 : Int32) hcr27) 79 1 tw_338 tw_335 tw_337 ts_1 tw_1 hd_N_refuse rfl ⟨(Nat.le_of_ble_eq_true rfl), (Nat.le_of_ble_eq_true rfl)⟩ ⟨(Nat.le_of_ble_eq_true rfl), (Nat.le_of_ble_eq_true rfl)⟩ (Nat.le_of_ble_eq_true rfl) rfl 26 rfl (by decide +kernel) [.int r27] rfl ?_
    obtain ⟨rfl, rfl⟩ := ret_e hf
    exact v_iret C hr (by decide +kernel)
  · have hf := onul_s hf
    obtain ⟨hk_b25, hf⟩ := grd_e hf
    refine v_cV C 8 rfl (ns_kd_lt hk_a0 (by decide)) hk_a0 (by decide) [.int x1] [] (c_N_shelfAt G l σ a0 x1 hcr24) 71 1 tw_331 tw_328 tw_330 ts_0 tw_1 hd_N_shelfAt rfl ⟨(Nat.le_of_ble_eq_true rfl), (Nat.le_of_ble_eq_true rfl)⟩ ⟨(Nat.le_of_ble_eq_true rfl), (Nat.le_of_ble_eq_true rfl)⟩ (Nat.le_of_ble_eq_true rfl) rfl 5 rfl (by decide +kernel) [.ref (G.1 + b25)] rfl ?_
    refine v_astore_n C 3 [(3, .ref (G.1 + b25)), (0, .ref (G.1 + a0)), (1, .int x1), (2, .int x2)] (by decide) rfl 6 rfl (by decide +kernel) ?_
    refine v_aload_n C 3 0 rfl 7 rfl (by decide +kernel) ?_
    refine v_ifnull C 20 10 rfl (by decide +kernel) ?_
    refine v_iload_n C 2 3 rfl 11 rfl (by decide +kernel) ?_
    refine v_iconst C (1) (1) (by decide) 12 rfl (by decide +kernel) ?_
    refine v_bipush C (6) (6) (by decide) 14 rfl (by decide +kernel) ?_
    obtain ⟨r29, σ28, hcr29, hf⟩ := cl2_e hf
    refine v_cS C [.int x2, .int (1 : Int32), .int (6 : Int32)] [] (c_N_isWithin G l σ23 x2 (1 : Int32) (6 : Int32) hcr29) 75 3 tw_334 tw_332 tw_333 tw_1 hd_N_isWithin rfl ⟨(Nat.le_of_ble_eq_true rfl), (Nat.le_of_ble_eq_true rfl)⟩ ⟨(Nat.le_of_ble_eq_true rfl), (Nat.le_of_ble_eq_true rfl)⟩ (Nat.le_of_ble_eq_true rfl) rfl 17 rfl (by decide +kernel) [.int r29] rfl ?_
    refine v_if_ne C 27 20 rfl (by decide +kernel) (fun h30 => ?_) (fun h30 => ?_)
    · have hf := ite2_f hf h30
      refine v_aload_n C 3 0 rfl 28 rfl (by decide +kernel) ?_
      obtain ⟨r32, σ31, hcr32, hf⟩ := cl2_e hf
      refine v_cVN C 3 rfl (ns_kd_lt hk_b25 (by decide)) hk_b25 (by decide) [] [] (c_Shelf_troubleAsRow G l σ28 b25 hcr32) 87 0 tw_350 tw_347 tw_349 ts_3 tw_9 hd_Shelf_troubleAsRow rfl ⟨(Nat.le_of_ble_eq_true rfl), (Nat.le_of_ble_eq_true rfl)⟩ ⟨(Nat.le_of_ble_eq_true rfl), (Nat.le_of_ble_eq_true rfl)⟩ (Nat.le_of_ble_eq_true rfl) rfl 31 rfl (by decide +kernel) [.int r32] rfl ?_
      refine v_istore C 4 [(4, .int r32), (3, .ref (G.1 + b25)), (0, .ref (G.1 + a0)), (1, .int x1), (2, .int x2)] (by decide) rfl 33 rfl (by decide +kernel) ?_
      refine v_iload C 4 0 rfl 35 rfl (by decide +kernel) ?_
      refine v_if_eq C 45 38 rfl (by decide +kernel) (fun h33 => ?_) (fun h33 => ?_)
      · have hf := ite2_t hf h33
        refine v_aload_n C 0 2 rfl 46 rfl (by decide +kernel) ?_
        refine v_aload_n C 3 1 rfl 47 rfl (by decide +kernel) ?_
        refine v_iload_n C 2 4 rfl 48 rfl (by decide +kernel) ?_
        obtain ⟨r35, σ34, hcr35, hf⟩ := cl2_e hf
        refine v_cV C 8 rfl (ns_kd_lt hk_a0 (by decide)) hk_a0 (by decide) [.ref (G.1 + b25), .int x2] [] (c_N_mulesTold G l σ31 a0 b25 x2 hcr35) 270 2 tw_776 tw_773 tw_775 ts_47 tw_1 hd_N_mulesTold rfl ⟨(Nat.le_of_ble_eq_true rfl), (Nat.le_of_ble_eq_true rfl)⟩ ⟨(Nat.le_of_ble_eq_true rfl), (Nat.le_of_ble_eq_true rfl)⟩ (Nat.le_of_ble_eq_true rfl) rfl 51 rfl (by decide +kernel) [.int r35] rfl ?_
        refine v_istore C 5 [(5, .int r35), (4, .int r32), (3, .ref (G.1 + b25)), (0, .ref (G.1 + a0)), (1, .int x1), (2, .int x2)] (by decide) rfl 53 rfl (by decide +kernel) ?_
        refine v_iload C 5 0 rfl 55 rfl (by decide +kernel) ?_
        refine v_iconst C (-1) (-1) (by decide) 56 rfl (by decide +kernel) ?_
        refine v_icmp_ne C 66 59 rfl (by decide +kernel) (fun h36 => ?_) (fun h36 => ?_)
        · have hf := ite2_f hf h36
          refine v_aload_n C 0 3 rfl 67 rfl (by decide +kernel) ?_
          refine v_iload C 5 0 rfl 69 rfl (by decide +kernel) ?_
          obtain ⟨r38, σ37, hcr38, hf⟩ := cl2_e hf
          refine v_cV C 8 rfl (ns_kd_lt hk_a0 (by decide)) hk_a0 (by decide) [.int r35] [] (c_N_placesOfTrain G l σ34 a0 r35 hcr38) 274 1 tw_780 tw_777 tw_779 ts_48 tw_1 hd_N_placesOfTrain rfl ⟨(Nat.le_of_ble_eq_true rfl), (Nat.le_of_ble_eq_true rfl)⟩ ⟨(Nat.le_of_ble_eq_true rfl), (Nat.le_of_ble_eq_true rfl)⟩ (Nat.le_of_ble_eq_true rfl) rfl 72 rfl (by decide +kernel) [.int r38] rfl ?_
          obtain ⟨rfl, rfl⟩ := ret_e hf
          exact v_iret C hr (by decide +kernel)
        · have hf := ite2_t hf h36
          refine v_aload_n C 0 3 rfl 60 rfl (by decide +kernel) ?_
          refine v_bipush C (-2) (-2) (by decide) 62 rfl (by decide +kernel) ?_
          obtain ⟨r40, σ39, hcr40, hf⟩ := cl2_e hf
          refine v_cV C 8 rfl (ns_kd_lt hk_a0 (by decide)) hk_a0 (by decide) [.int (-2 : Int32)] [] (c_N_refuse G l σ34 a0 (-2 : Int32) hcr40) 79 1 tw_338 tw_335 tw_337 ts_1 tw_1 hd_N_refuse rfl ⟨(Nat.le_of_ble_eq_true rfl), (Nat.le_of_ble_eq_true rfl)⟩ ⟨(Nat.le_of_ble_eq_true rfl), (Nat.le_of_ble_eq_true rfl)⟩ (Nat.le_of_ble_eq_true rfl) rfl 65 rfl (by decide +kernel) [.int r40] rfl ?_
          obtain ⟨rfl, rfl⟩ := ret_e hf
          exact v_iret C hr (by decide +kernel)
      · have hf := ite2_f hf h33
        refine v_aload_n C 0 2 rfl 39 rfl (by decide +kernel) ?_
        refine v_iload C 4 0 rfl 41 rfl (by decide +kernel) ?_
        obtain ⟨r42, σ41, hcr42, hf⟩ := cl2_e hf
        refine v_cV C 8 rfl (ns_kd_lt hk_a0 (by decide)) hk_a0 (by decide) [.int r32] [] (c_N_refuse G l σ31 a0 r32 hcr42) 79 1 tw_338 tw_335 tw_337 ts_1 tw_1 hd_N_refuse rfl ⟨(Nat.le_of_ble_eq_true rfl), (Nat.le_of_ble_eq_true rfl)⟩ ⟨(Nat.le_of_ble_eq_true rfl), (Nat.le_of_ble_eq_true rfl)⟩ (Nat.le_of_ble_eq_true rfl) rfl 44 rfl (by decide +kernel) [.int r42] rfl ?_
        obtain ⟨rfl, rfl⟩ := ret_e hf
        exact v_iret C hr (by decide +kernel)
    · have hf := ite2_t hf h30
      refine v_aload_n C 0 1 rfl 21 rfl (by decide +kernel) ?_
      refine v_bipush C (-2) (-2) (by decide) 23 rfl (by decide +kernel) ?_
      obtain ⟨r44, σ43, hcr44, hf⟩ := cl2_e hf
      refine v_cV C 8 rfl (ns_kd_lt hk_a0 (by decide)) hk_a0 (by decide) [.int (-2 : Int32)] [] (c_N_refuse G l σ28 a0 (-2 : Int32) hcr44) 79 1 tw_338 tw_335 tw_337 ts_1 tw_1 hd_N_refuse rfl ⟨(Nat.le_of_ble_eq_true rfl), (Nat.le_of_ble_eq_true rfl)⟩ ⟨(Nat.le_of_ble_eq_true rfl), (Nat.le_of_ble_eq_true rfl)⟩ (Nat.le_of_ble_eq_true rfl) rfl 26 rfl (by decide +kernel) [.int r44] rfl ?_
      obtain ⟨rfl, rfl⟩ := ret_e hf
      exact v_iret C hr (by decide +kernel)
theorem hd_N_train : (⟨"NinthStep", "train", "(II)I"⟩ : MethodName).cls = "NinthStep" ∧ (⟨"NinthStep", "train", "(II)I"⟩ : MethodName).cls ≠ "java/lang/invoke/MethodHandle" ∧ (⟨"NinthStep", "train", "(II)I"⟩ : MethodName).cls ≠ "java/lang/invoke/VarHandle" ∧ (parseMethodDescriptor (⟨"NinthStep", "train", "(II)I"⟩ : MethodName).desc).map (fun d => d.parameters.length) = some 2 := by decide +kernel
def g_N_countCrowds_51 (kh23 : ns_St → Nat → Int32 → Option (Unit × ns_St)) : Nat → ns_St → Nat → Int32 → Int64 → Int32 → Option (Unit × ns_St)
  | 0, _, _, _, _, _ => none
  | f + 1, σ, a0, x1, x2, x4 => ite2 ((61 : Int32) ≤ x4) (bnd (x1 + 1) fun z28 => kh23 σ a0 z28) (drf (σ.2.2 a0 9) fun b29 => grd (ns_kd b29 = 10) <| grd (ns_in x4 (ns_ln b29)) <| cl2 (g_N_isIn σ x2 x4) fun r32 σ31 => ite2 (r32 = 0) (grd (ns_in x4 (ns_ln b29)) <| bnd (ns_pI σ31 b29 (ns_ix x4) ((σ.1 b29 (ns_ix x4)) + (0 : Int32))) fun σ35 => bnd (x4 + 1) fun z36 => (g_N_countCrowds_51 kh23 f) σ35 a0 x1 x2 z36) (grd (ns_in x4 (ns_ln b29)) <| bnd (ns_pI σ31 b29 (ns_ix x4) ((σ.1 b29 (ns_ix x4)) + (1 : Int32))) fun σ38 => bnd (x4 + 1) fun z39 => (g_N_countCrowds_51 kh23 f) σ38 a0 x1 x2 z39))
def g_N_countCrowds_23  : Nat → ns_St → Nat → Int32 → Option (Unit × ns_St)
  | 0, _, _, _ => none
  | f + 1, σ, a0, x1 => drf (σ.2.2 a0 0) fun b40 => grd (ns_kd b40 = 7) <| ite2 ((σ.1 b40 2) ≤ x1) (some ((), σ)) (drf (σ.2.2 a0 0) fun b42 => grd (ns_kd b42 = 7) <| drf (σ.2.2 b42 1) fun b43 => grd (ns_kd b43 = 12) <| grd (ns_in x1 (ns_ln b43)) <| drf (σ.2.2 b43 (ns_ix x1)) fun b45 => grd (ns_kd b45 = 2) <| cl2 (g_N_stopsOf σ a0 b45) fun r47 σ46 => g_N_countCrowds_51 (g_N_countCrowds_23 f) ns_F σ46 a0 x1 r47 (0 : Int32))
def g_N_countCrowds_2  : Nat → ns_St → Nat → Int32 → Option (Unit × ns_St)
  | 0, _, _, _ => none
  | f + 1, σ, a0, x1 => ite2 ((61 : Int32) ≤ x1) (g_N_countCrowds_23 ns_F σ a0 (0 : Int32)) (drf (σ.2.2 a0 9) fun b49 => grd (ns_kd b49 = 10) <| grd (ns_in x1 (ns_ln b49)) <| bnd (ns_pI σ b49 (ns_ix x1) (0 : Int32)) fun σ51 => bnd (x1 + 1) fun z52 => (g_N_countCrowds_2 f) σ51 a0 z52)
def g_N_countCrowds (σ : ns_St) (a0 : Nat) : Option (Unit × ns_St) := grd (ns_kd a0 = 8) <| g_N_countCrowds_2 ns_F σ a0 (0 : Int32)
theorem t_N_countCrowds_51 (G : ns_G) (l : Launch) {p : Program} {e : Env} {s : State} {m : MethodId} {args : Array Value} {below : List Frame} {meth : Method} {c : Code} (C : ns_Cx G p s m args meth c prog_1_method_61_code "NinthStep" 5) (hr : meth.sig.returnType = none) {r : Unit} {σ' : ns_St} {kh23 : ns_St → Nat → Int32 → Option (Unit × ns_St)} (hkh23 : ∀ (σ : ns_St) (a0 : Nat) (x1 : Int32), ns_kd a0 = 8 → kh23 σ a0 x1 = some (r, σ') → VV G p l e { frames := 4, cells := 0, slots := 0, locals := 93 } s m args below meth c 5 0 0 (MQ below (ns_Qc G none ns_N σ') args s 0 0 (ns_A G)) ns_N σ 23 [(0, .ref (G.1 + a0)), (1, .int x1)] []) : ∀ (f : Nat) (σ : ns_St) (a0 : Nat) (x1 : Int32) (x2 : Int64) (x4 : Int32) (hk_a0 : ns_kd a0 = 8), g_N_countCrowds_51 kh23 f σ a0 x1 x2 x4 = some (r, σ') → VV G p l e { frames := 4, cells := 0, slots := 0, locals := 93 } s m args below meth c 5 0 0 (MQ below (ns_Qc G none ns_N σ') args s 0 0 (ns_A G)) ns_N σ 51 [(0, .ref (G.1 + a0)), (1, .int x1), (2, .long x2), (4, .int x4)] [] := by
  intro f
  induction f with
  | zero =>
    intro σ a0 x1 x2 x4 hk_a0 hf
    cases hf
  | succ f ih =>
    intro σ a0 x1 x2 x4 hk_a0 hf
    rw [g_N_countCrowds_51] at hf
    refine v_iload C 4 3 rfl 53 rfl (by decide +kernel) ?_
    refine v_bipush C (61) (61) (by decide) 55 rfl (by decide +kernel) ?_
    refine v_icmp_ge C 88 58 rfl (by decide +kernel) (fun h27 => ?_) (fun h27 => ?_)
    · have hf := ite2_t hf h27
      obtain ⟨z28, hz28, hf⟩ := bnd_e hf
      refine v_iinc C 1 (1) 1 z28 rfl (by rw [hz28]; rfl) [(1, .int z28), (0, .ref (G.1 + a0)), (2, .long x2), (4, .int x4)] (by decide) rfl 91 rfl (by decide +kernel) ?_
      refine v_goto C 23 (by decide +kernel) ?_
      refine v_sub [1, 0] rfl ?_
      exact hkh23 σ a0 z28 hk_a0 hf
    · have hf := ite2_f hf h27
      refine v_aload_n C 0 0 rfl 59 rfl (by decide +kernel) ?_
      obtain ⟨b29, hb29, hf⟩ := drf_e hf
      obtain ⟨hk_b29, hf⟩ := grd_e hf
      refine v_getR C 8 9 hb29 rfl nin_8 (ns_kd_lt hk_a0 (by decide)) hk_a0 (by decide) (by decide) rfl 63 tw_296 rfl 62 rfl (by decide +kernel) ?_
      refine v_iload C 4 3 rfl 64 rfl (by decide +kernel) ?_
      refine v_dup2_11 C rfl rfl 65 rfl (by decide +kernel) ?_
      obtain ⟨hi30, hf⟩ := grd_e hf
      refine v_iald C (ns_kd_lt hk_b29 (by decide)) hk_b29 hi30 66 rfl (by decide +kernel) ?_
      refine v_lload_n C 2 2 rfl 67 rfl (by decide +kernel) ?_
      refine v_iload C 4 3 rfl 69 rfl (by decide +kernel) ?_
      obtain ⟨r32, σ31, hcr32, hf⟩ := cl2_e hf
      refine v_cS C [.long x2, .int x4] [.int (σ.1 b29 (ns_ix x4)), .int x4, .ref (G.1 + b29)] (c_N_isIn G l σ x2 x4 hcr32) 160 2 tw_455 tw_460 tw_454 tw_1 hd_N_isIn rfl ⟨(Nat.le_of_ble_eq_true rfl), (Nat.le_of_ble_eq_true rfl)⟩ ⟨(Nat.le_of_ble_eq_true rfl), (Nat.le_of_ble_eq_true rfl)⟩ (Nat.le_of_ble_eq_true rfl) rfl 72 rfl (by decide +kernel) [.int r32, .int (σ.1 b29 (ns_ix x4)), .int x4, .ref (G.1 + b29)] rfl ?_
      refine v_if_eq C 79 75 rfl (by decide +kernel) (fun h33 => ?_) (fun h33 => ?_)
      · have hf := ite2_t hf h33
        refine v_iconst C (0) (0) (by decide) 80 rfl (by decide +kernel) ?_
        refine v_iadd C 81 rfl (by decide +kernel) ?_
        obtain ⟨hi34, hf⟩ := grd_e hf
        obtain ⟨σ35, hσ35, hf⟩ := bnd_e hf
        refine v_iast C hσ35 (ns_kd_lt hk_b29 (by decide)) hk_b29 hi34 82 rfl (by decide +kernel) ?_
        obtain ⟨z36, hz36, hf⟩ := bnd_e hf
        refine v_iinc C 4 (1) 3 z36 rfl (by rw [hz36]; rfl) [(4, .int z36), (0, .ref (G.1 + a0)), (1, .int x1), (2, .long x2)] (by decide) rfl 85 rfl (by decide +kernel) ?_
        refine v_goto C 51 (by decide +kernel) ?_
        refine v_sub [1, 2, 3, 0] rfl ?_
        exact ih σ35 a0 x1 x2 z36 hk_a0 hf
      · have hf := ite2_f hf h33
        refine v_iconst C (1) (1) (by decide) 76 rfl (by decide +kernel) ?_
        refine v_goto C 80 (by decide +kernel) ?_
        refine v_iadd C 81 rfl (by decide +kernel) ?_
        obtain ⟨hi37, hf⟩ := grd_e hf
        obtain ⟨σ38, hσ38, hf⟩ := bnd_e hf
        refine v_iast C hσ38 (ns_kd_lt hk_b29 (by decide)) hk_b29 hi37 82 rfl (by decide +kernel) ?_
        obtain ⟨z39, hz39, hf⟩ := bnd_e hf
        refine v_iinc C 4 (1) 3 z39 rfl (by rw [hz39]; rfl) [(4, .int z39), (0, .ref (G.1 + a0)), (1, .int x1), (2, .long x2)] (by decide) rfl 85 rfl (by decide +kernel) ?_
        refine v_goto C 51 (by decide +kernel) ?_
        refine v_sub [1, 2, 3, 0] rfl ?_
        exact ih σ38 a0 x1 x2 z39 hk_a0 hf
theorem t_N_countCrowds_23 (G : ns_G) (l : Launch) {p : Program} {e : Env} {s : State} {m : MethodId} {args : Array Value} {below : List Frame} {meth : Method} {c : Code} (C : ns_Cx G p s m args meth c prog_1_method_61_code "NinthStep" 5) (hr : meth.sig.returnType = none) {r : Unit} {σ' : ns_St}  : ∀ (f : Nat) (σ : ns_St) (a0 : Nat) (x1 : Int32) (hk_a0 : ns_kd a0 = 8), g_N_countCrowds_23 f σ a0 x1 = some (r, σ') → VV G p l e { frames := 4, cells := 0, slots := 0, locals := 93 } s m args below meth c 5 0 0 (MQ below (ns_Qc G none ns_N σ') args s 0 0 (ns_A G)) ns_N σ 23 [(0, .ref (G.1 + a0)), (1, .int x1)] [] := by
  intro f
  induction f with
  | zero =>
    intro σ a0 x1 hk_a0 hf
    cases hf
  | succ f ih =>
    intro σ a0 x1 hk_a0 hf
    rw [g_N_countCrowds_23] at hf
    refine v_iload_n C 1 1 rfl 24 rfl (by decide +kernel) ?_
    refine v_aload_n C 0 0 rfl 25 rfl (by decide +kernel) ?_
    obtain ⟨b40, hb40, hf⟩ := drf_e hf
    obtain ⟨hk_b40, hf⟩ := grd_e hf
    refine v_getR C 8 0 hb40 rfl nin_8 (ns_kd_lt hk_a0 (by decide)) hk_a0 (by decide) (by decide) rfl 12 tw_287 rfl 28 rfl (by decide +kernel) ?_
    refine v_getIN C 7 2 rfl nin_7 (ns_kd_lt hk_b40 (by decide)) hk_b40 (by decide) (by decide) rfl 135 tw_135 rfl 31 rfl (by decide +kernel) ?_
    refine v_icmp_ge C 94 34 rfl (by decide +kernel) (fun h41 => ?_) (fun h41 => ?_)
    · have hf := ite2_t hf h41
      obtain ⟨rfl, rfl⟩ := ret_e hf
      exact v_vret C hr (by decide +kernel)
    · have hf := ite2_f hf h41
      refine v_aload_n C 0 0 rfl 35 rfl (by decide +kernel) ?_
      refine v_aload_n C 0 0 rfl 36 rfl (by decide +kernel) ?_
      obtain ⟨b42, hb42, hf⟩ := drf_e hf
      obtain ⟨hk_b42, hf⟩ := grd_e hf
      refine v_getR C 8 0 hb42 rfl nin_8 (ns_kd_lt hk_a0 (by decide)) hk_a0 (by decide) (by decide) rfl 12 tw_287 rfl 39 rfl (by decide +kernel) ?_
      obtain ⟨b43, hb43, hf⟩ := drf_e hf
      obtain ⟨hk_b43, hf⟩ := grd_e hf
      refine v_getRN C 7 1 hb43 rfl nin_7 (ns_kd_lt hk_b42 (by decide)) hk_b42 (by decide) (by decide) rfl 266 tw_131 rfl 42 rfl (by decide +kernel) ?_
      refine v_iload_n C 1 1 rfl 43 rfl (by decide +kernel) ?_
      obtain ⟨hi44, hf⟩ := grd_e hf
      obtain ⟨b45, hb45, hf⟩ := drf_e hf
      obtain ⟨hk_b45, hf⟩ := grd_e hf
      refine v_aald C 12 (by decide) (ns_kd_lt hk_b43 (by decide)) hk_b43 hi44 hb45 44 rfl (by decide +kernel) ?_
      obtain ⟨r47, σ46, hcr47, hf⟩ := cl2_e hf
      refine v_cV C 8 rfl (ns_kd_lt hk_a0 (by decide)) hk_a0 (by decide) [.ref (G.1 + b45)] [] (c_N_stopsOf G l σ a0 b45 hcr47) 209 1 tw_643 tw_640 tw_642 ts_29 tw_1 hd_N_stopsOf rfl ⟨(Nat.le_of_ble_eq_true rfl), (Nat.le_of_ble_eq_true rfl)⟩ ⟨(Nat.le_of_ble_eq_true rfl), (Nat.le_of_ble_eq_true rfl)⟩ (Nat.le_of_ble_eq_true rfl) rfl 47 rfl (by decide +kernel) [.long r47] rfl ?_
      refine v_lstore_n C 2 [(2, .long r47), (0, .ref (G.1 + a0)), (1, .int x1)] (by decide) rfl 48 rfl (by decide +kernel) ?_
      refine v_iconst C (0) (0) (by decide) 49 rfl (by decide +kernel) ?_
      refine v_istore C 4 [(4, .int (0 : Int32)), (2, .long r47), (0, .ref (G.1 + a0)), (1, .int x1)] (by decide) rfl 51 rfl (by decide +kernel) ?_
      refine v_sub [2, 3, 1, 0] rfl ?_
      exact t_N_countCrowds_51 G l C hr ih ns_F σ46 a0 x1 r47 (0 : Int32) hk_a0 hf
theorem t_N_countCrowds_2 (G : ns_G) (l : Launch) {p : Program} {e : Env} {s : State} {m : MethodId} {args : Array Value} {below : List Frame} {meth : Method} {c : Code} (C : ns_Cx G p s m args meth c prog_1_method_61_code "NinthStep" 5) (hr : meth.sig.returnType = none) {r : Unit} {σ' : ns_St}  : ∀ (f : Nat) (σ : ns_St) (a0 : Nat) (x1 : Int32) (hk_a0 : ns_kd a0 = 8), g_N_countCrowds_2 f σ a0 x1 = some (r, σ') → VV G p l e { frames := 4, cells := 0, slots := 0, locals := 93 } s m args below meth c 5 0 0 (MQ below (ns_Qc G none ns_N σ') args s 0 0 (ns_A G)) ns_N σ 2 [(0, .ref (G.1 + a0)), (1, .int x1)] [] := by
  intro f
  induction f with
  | zero =>
    intro σ a0 x1 hk_a0 hf
    cases hf
  | succ f ih =>
    intro σ a0 x1 hk_a0 hf
    rw [g_N_countCrowds_2] at hf
    refine v_iload_n C 1 1 rfl 3 rfl (by decide +kernel) ?_
    refine v_bipush C (61) (61) (by decide) 5 rfl (by decide +kernel) ?_
    refine v_icmp_ge C 21 8 rfl (by decide +kernel) (fun h48 => ?_) (fun h48 => ?_)
    · have hf := ite2_t hf h48
      refine v_iconst C (0) (0) (by decide) 22 rfl (by decide +kernel) ?_
      refine v_istore_n C 1 [(1, .int (0 : Int32)), (0, .ref (G.1 + a0))] (by decide) rfl 23 rfl (by decide +kernel) ?_
      refine v_sub [1, 0] rfl ?_
      exact t_N_countCrowds_23 G l C hr  ns_F σ a0 (0 : Int32) hk_a0 hf
    · have hf := ite2_f hf h48
      refine v_aload_n C 0 0 rfl 9 rfl (by decide +kernel) ?_
      obtain ⟨b49, hb49, hf⟩ := drf_e hf
      obtain ⟨hk_b49, hf⟩ := grd_e hf
      refine v_getR C 8 9 hb49 rfl nin_8 (ns_kd_lt hk_a0 (by decide)) hk_a0 (by decide) (by decide) rfl 63 tw_296 rfl 12 rfl (by decide +kernel) ?_
      refine v_iload_n C 1 1 rfl 13 rfl (by decide +kernel) ?_
      refine v_iconst C (0) (0) (by decide) 14 rfl (by decide +kernel) ?_
      obtain ⟨hi50, hf⟩ := grd_e hf
      obtain ⟨σ51, hσ51, hf⟩ := bnd_e hf
      refine v_iast C hσ51 (ns_kd_lt hk_b49 (by decide)) hk_b49 hi50 15 rfl (by decide +kernel) ?_
      obtain ⟨z52, hz52, hf⟩ := bnd_e hf
      refine v_iinc C 1 (1) 1 z52 rfl (by rw [hz52]; rfl) [(1, .int z52), (0, .ref (G.1 + a0))] (by decide) rfl 18 rfl (by decide +kernel) ?_
      refine v_goto C 2 (by decide +kernel) ?_
      refine v_sub [1, 0] rfl ?_
      exact ih σ51 a0 z52 hk_a0 hf
theorem c_N_countCrowds (G : ns_G) (l : Launch) (σ : ns_St) (a0 : Nat) {r : Unit} {σ' : ns_St} (hf : g_N_countCrowds σ a0 = some (r, σ')) : ns_ok G l ⟨"NinthStep", "countCrowds", "()V"⟩ prog_1_method_61_code 5 none 4 93 0 0 [.ref (G.1 + a0)] ns_N σ none ns_N σ' := by
  refine v_open (by decide) (Nat.le_of_ble_eq_true rfl) rfl ?_
  intro p e s m below meth c C hr _
  have C : ns_Cx G p s m _ meth c prog_1_method_61_code "NinthStep" 5 := C
  unfold g_N_countCrowds at hf
  obtain ⟨hk_a0, hf⟩ := grd_e hf
  refine v_iconst C (0) (0) (by decide) 1 rfl (by decide +kernel) ?_
  refine v_istore_n C 1 [(1, .int (0 : Int32)), (0, .ref (G.1 + a0))] (by decide) rfl 2 rfl (by decide +kernel) ?_
  refine v_sub [1, 0] rfl ?_
  exact t_N_countCrowds_2 G l C hr  ns_F σ a0 (0 : Int32) hk_a0 hf
theorem hd_N_countCrowds : (⟨"NinthStep", "countCrowds", "()V"⟩ : MethodName).cls = "NinthStep" ∧ (⟨"NinthStep", "countCrowds", "()V"⟩ : MethodName).cls ≠ "java/lang/invoke/MethodHandle" ∧ (⟨"NinthStep", "countCrowds", "()V"⟩ : MethodName).cls ≠ "java/lang/invoke/VarHandle" ∧ (parseMethodDescriptor (⟨"NinthStep", "countCrowds", "()V"⟩ : MethodName).desc).map (fun d => d.parameters.length) = some 0 := by decide +kernel
def g_N_crowd (σ : ns_St) (a0 : Nat) (x1 : Int32) : Option (Int32 × ns_St) := grd (ns_kd a0 = 8) <| cl2 (g_N_isPlace σ a0 x1) fun r11 σ10 => ite2 (r11 = 0) (cl2 (g_N_refuse σ10 a0 (-2 : Int32)) fun r18 σ17 => some (r18, σ17)) (cl2 (g_N_countCrowds σ10 a0) fun r14 σ13 => drf (σ13.2.2 a0 9) fun b15 => grd (ns_kd b15 = 10) <| grd (ns_in x1 (ns_ln b15)) <| some ((σ13.1 b15 (ns_ix x1)), σ13))
theorem c_N_crowd (G : ns_G) (l : Launch) (σ : ns_St) (a0 : Nat) (x1 : Int32) {r : Int32} {σ' : ns_St} (hf : g_N_crowd σ a0 x1 = some (r, σ')) : ns_ok G l ⟨"NinthStep", "crowd", "(I)I"⟩ prog_1_method_31_code 2 (some .int) 5 117 0 0 [.ref (G.1 + a0), .int x1] ns_N σ (some (.int r)) ns_N σ' := by
  refine v_open (by decide) (Nat.le_of_ble_eq_true rfl) rfl ?_
  intro p e s m below meth c C hr _
  have C : ns_Cx G p s m _ meth c prog_1_method_31_code "NinthStep" 2 := C
  unfold g_N_crowd at hf
  obtain ⟨hk_a0, hf⟩ := grd_e hf
  refine v_aload_n C 0 0 rfl 1 rfl (by decide +kernel) ?_
  refine v_iload_n C 1 1 rfl 2 rfl (by decide +kernel) ?_
  obtain ⟨r11, σ10, hcr11, hf⟩ := cl2_e hf
  refine v_cV C 8 rfl (ns_kd_lt hk_a0 (by decide)) hk_a0 (by decide) [.int x1] [] (c_N_isPlace G l σ a0 x1 hcr11) 150 1 tw_448 tw_445 tw_447 ts_10 tw_1 hd_N_isPlace rfl ⟨(Nat.le_of_ble_eq_true rfl), (Nat.le_of_ble_eq_true rfl)⟩ ⟨(Nat.le_of_ble_eq_true rfl), (Nat.le_of_ble_eq_true rfl)⟩ (Nat.le_of_ble_eq_true rfl) rfl 5 rfl (by decide +kernel) [.int r11] rfl ?_
  refine v_if_ne C 15 8 rfl (by decide +kernel) (fun h12 => ?_) (fun h12 => ?_)
  · have hf := ite2_f hf h12
    refine v_aload_n C 0 0 rfl 16 rfl (by decide +kernel) ?_
    obtain ⟨r14, σ13, hcr14, hf⟩ := cl2_e hf
    refine v_cV C 8 rfl (ns_kd_lt hk_a0 (by decide)) hk_a0 (by decide) [] [] (c_N_countCrowds G l σ10 a0 hcr14) 277 0 tw_788 tw_785 tw_787 ts_49 tw_1 hd_N_countCrowds rfl ⟨(Nat.le_of_ble_eq_true rfl), (Nat.le_of_ble_eq_true rfl)⟩ ⟨(Nat.le_of_ble_eq_true rfl), (Nat.le_of_ble_eq_true rfl)⟩ (Nat.le_of_ble_eq_true rfl) rfl 19 rfl (by decide +kernel) [] rfl ?_
    refine v_aload_n C 0 0 rfl 20 rfl (by decide +kernel) ?_
    obtain ⟨b15, hb15, hf⟩ := drf_e hf
    obtain ⟨hk_b15, hf⟩ := grd_e hf
    refine v_getR C 8 9 hb15 rfl nin_8 (ns_kd_lt hk_a0 (by decide)) hk_a0 (by decide) (by decide) rfl 63 tw_296 rfl 23 rfl (by decide +kernel) ?_
    refine v_iload_n C 1 1 rfl 24 rfl (by decide +kernel) ?_
    obtain ⟨hi16, hf⟩ := grd_e hf
    refine v_iald C (ns_kd_lt hk_b15 (by decide)) hk_b15 hi16 25 rfl (by decide +kernel) ?_
    obtain ⟨rfl, rfl⟩ := ret_e hf
    exact v_iret C hr (by decide +kernel)
  · have hf := ite2_t hf h12
    refine v_aload_n C 0 0 rfl 9 rfl (by decide +kernel) ?_
    refine v_bipush C (-2) (-2) (by decide) 11 rfl (by decide +kernel) ?_
    obtain ⟨r18, σ17, hcr18, hf⟩ := cl2_e hf
    refine v_cV C 8 rfl (ns_kd_lt hk_a0 (by decide)) hk_a0 (by decide) [.int (-2 : Int32)] [] (c_N_refuse G l σ10 a0 (-2 : Int32) hcr18) 79 1 tw_338 tw_335 tw_337 ts_1 tw_1 hd_N_refuse rfl ⟨(Nat.le_of_ble_eq_true rfl), (Nat.le_of_ble_eq_true rfl)⟩ ⟨(Nat.le_of_ble_eq_true rfl), (Nat.le_of_ble_eq_true rfl)⟩ (Nat.le_of_ble_eq_true rfl) rfl 14 rfl (by decide +kernel) [.int r18] rfl ?_
    obtain ⟨rfl, rfl⟩ := ret_e hf
    exact v_iret C hr (by decide +kernel)
theorem hd_N_crowd : (⟨"NinthStep", "crowd", "(I)I"⟩ : MethodName).cls = "NinthStep" ∧ (⟨"NinthStep", "crowd", "(I)I"⟩ : MethodName).cls ≠ "java/lang/invoke/MethodHandle" ∧ (⟨"NinthStep", "crowd", "(I)I"⟩ : MethodName).cls ≠ "java/lang/invoke/VarHandle" ∧ (parseMethodDescriptor (⟨"NinthStep", "crowd", "(I)I"⟩ : MethodName).desc).map (fun d => d.parameters.length) = some 1 := by decide +kernel
def g_N_fullestPlace_6  : Nat → ns_St → Nat → Int32 → Int32 → Int32 → Option (Int32 × ns_St)
  | 0, _, _, _, _, _ => none
  | f + 1, σ, a0, x1, x2, x3 => ite2 ((61 : Int32) ≤ x3) (some (x1, σ)) (drf (σ.2.2 a0 9) fun b11 => grd (ns_kd b11 = 10) <| grd (ns_in x3 (ns_ln b11)) <| ite2 ((σ.1 b11 (ns_ix x3)) ≤ x2) (bnd (x3 + 1) fun z14 => (g_N_fullestPlace_6 f) σ a0 x1 x2 z14) (drf (σ.2.2 a0 9) fun b15 => grd (ns_kd b15 = 10) <| grd (ns_in x3 (ns_ln b15)) <| bnd (σ.1 b15 (ns_ix x3)) fun z17 => bnd (x3 + 1) fun z18 => (g_N_fullestPlace_6 f) σ a0 x3 z17 z18))
def g_N_fullestPlace (σ : ns_St) (a0 : Nat) : Option (Int32 × ns_St) := grd (ns_kd a0 = 8) <| g_N_fullestPlace_6 ns_F σ a0 (-1 : Int32) (0 : Int32) (0 : Int32)
theorem t_N_fullestPlace_6 (G : ns_G) (l : Launch) {p : Program} {e : Env} {s : State} {m : MethodId} {args : Array Value} {below : List Frame} {meth : Method} {c : Code} (C : ns_Cx G p s m args meth c prog_1_method_62_code "NinthStep" 4) (hr : meth.sig.returnType = (some .int)) {r : Int32} {σ' : ns_St}  : ∀ (f : Nat) (σ : ns_St) (a0 : Nat) (x1 : Int32) (x2 : Int32) (x3 : Int32) (hk_a0 : ns_kd a0 = 8), g_N_fullestPlace_6 f σ a0 x1 x2 x3 = some (r, σ') → VV G p l e { frames := 0, cells := 0, slots := 0, locals := 0 } s m args below meth c 4 0 0 (MQ below (ns_Qc G (some (.int r)) ns_N σ') args s 0 0 (ns_A G)) ns_N σ 6 [(0, .ref (G.1 + a0)), (1, .int x1), (2, .int x2), (3, .int x3)] [] := by
  intro f
  induction f with
  | zero =>
    intro σ a0 x1 x2 x3 hk_a0 hf
    cases hf
  | succ f ih =>
    intro σ a0 x1 x2 x3 hk_a0 hf
    rw [g_N_fullestPlace_6] at hf
    refine v_iload_n C 3 3 rfl 7 rfl (by decide +kernel) ?_
    refine v_bipush C (61) (61) (by decide) 9 rfl (by decide +kernel) ?_
    refine v_icmp_ge C 37 12 rfl (by decide +kernel) (fun h10 => ?_) (fun h10 => ?_)
    · have hf := ite2_t hf h10
      refine v_iload_n C 1 1 rfl 38 rfl (by decide +kernel) ?_
      obtain ⟨rfl, rfl⟩ := ret_e hf
      exact v_iret C hr (by decide +kernel)
    · have hf := ite2_f hf h10
      refine v_aload_n C 0 0 rfl 13 rfl (by decide +kernel) ?_
      obtain ⟨b11, hb11, hf⟩ := drf_e hf
      obtain ⟨hk_b11, hf⟩ := grd_e hf
      refine v_getR C 8 9 hb11 rfl nin_8 (ns_kd_lt hk_a0 (by decide)) hk_a0 (by decide) (by decide) rfl 63 tw_296 rfl 16 rfl (by decide +kernel) ?_
      refine v_iload_n C 3 3 rfl 17 rfl (by decide +kernel) ?_
      obtain ⟨hi12, hf⟩ := grd_e hf
      refine v_iald C (ns_kd_lt hk_b11 (by decide)) hk_b11 hi12 18 rfl (by decide +kernel) ?_
      refine v_iload_n C 2 2 rfl 19 rfl (by decide +kernel) ?_
      refine v_icmp_le C 31 22 rfl (by decide +kernel) (fun h13 => ?_) (fun h13 => ?_)
      · have hf := ite2_t hf h13
        obtain ⟨z14, hz14, hf⟩ := bnd_e hf
        refine v_iinc C 3 (1) 3 z14 rfl (by rw [hz14]; rfl) [(3, .int z14), (0, .ref (G.1 + a0)), (1, .int x1), (2, .int x2)] (by decide) rfl 34 rfl (by decide +kernel) ?_
        refine v_goto C 6 (by decide +kernel) ?_
        refine v_sub [1, 2, 3, 0] rfl ?_
        exact ih σ a0 x1 x2 z14 hk_a0 hf
      · have hf := ite2_f hf h13
        refine v_aload_n C 0 0 rfl 23 rfl (by decide +kernel) ?_
        obtain ⟨b15, hb15, hf⟩ := drf_e hf
        obtain ⟨hk_b15, hf⟩ := grd_e hf
        refine v_getR C 8 9 hb15 rfl nin_8 (ns_kd_lt hk_a0 (by decide)) hk_a0 (by decide) (by decide) rfl 63 tw_296 rfl 26 rfl (by decide +kernel) ?_
        refine v_iload_n C 3 3 rfl 27 rfl (by decide +kernel) ?_
        obtain ⟨hi16, hf⟩ := grd_e hf
        refine v_iald C (ns_kd_lt hk_b15 (by decide)) hk_b15 hi16 28 rfl (by decide +kernel) ?_
        obtain ⟨z17, hz17, hf⟩ := bnd_e hf
        refine v_nmI hz17 ?_
        refine v_istore_n C 2 [(2, .int z17), (0, .ref (G.1 + a0)), (1, .int x1), (3, .int x3)] (by decide) rfl 29 rfl (by decide +kernel) ?_
        refine v_iload_n C 3 3 rfl 30 rfl (by decide +kernel) ?_
        refine v_istore_n C 1 [(1, .int x3), (2, .int z17), (0, .ref (G.1 + a0)), (3, .int x3)] (by decide) rfl 31 rfl (by decide +kernel) ?_
        obtain ⟨z18, hz18, hf⟩ := bnd_e hf
        refine v_iinc C 3 (1) 3 z18 rfl (by rw [hz18]; rfl) [(3, .int z18), (1, .int x3), (2, .int z17), (0, .ref (G.1 + a0))] (by decide) rfl 34 rfl (by decide +kernel) ?_
        refine v_goto C 6 (by decide +kernel) ?_
        refine v_sub [3, 1, 2, 0] rfl ?_
        exact ih σ a0 x3 z17 z18 hk_a0 hf
theorem c_N_fullestPlace (G : ns_G) (l : Launch) (σ : ns_St) (a0 : Nat) {r : Int32} {σ' : ns_St} (hf : g_N_fullestPlace σ a0 = some (r, σ')) : ns_ok G l ⟨"NinthStep", "fullestPlace", "()I"⟩ prog_1_method_62_code 4 (some .int) 0 0 0 0 [.ref (G.1 + a0)] ns_N σ (some (.int r)) ns_N σ' := by
  refine v_open (by decide) (Nat.le_of_ble_eq_true rfl) rfl ?_
  intro p e s m below meth c C hr _
  have C : ns_Cx G p s m _ meth c prog_1_method_62_code "NinthStep" 4 := C
  unfold g_N_fullestPlace at hf
  obtain ⟨hk_a0, hf⟩ := grd_e hf
  refine v_iconst C (-1) (-1) (by decide) 1 rfl (by decide +kernel) ?_
  refine v_istore_n C 1 [(1, .int (-1 : Int32)), (0, .ref (G.1 + a0))] (by decide) rfl 2 rfl (by decide +kernel) ?_
  refine v_iconst C (0) (0) (by decide) 3 rfl (by decide +kernel) ?_
  refine v_istore_n C 2 [(2, .int (0 : Int32)), (1, .int (-1 : Int32)), (0, .ref (G.1 + a0))] (by decide) rfl 4 rfl (by decide +kernel) ?_
  refine v_iconst C (0) (0) (by decide) 5 rfl (by decide +kernel) ?_
  refine v_istore_n C 3 [(3, .int (0 : Int32)), (2, .int (0 : Int32)), (1, .int (-1 : Int32)), (0, .ref (G.1 + a0))] (by decide) rfl 6 rfl (by decide +kernel) ?_
  refine v_sub [3, 2, 1, 0] rfl ?_
  exact t_N_fullestPlace_6 G l C hr  ns_F σ a0 (-1 : Int32) (0 : Int32) (0 : Int32) hk_a0 hf
theorem hd_N_fullestPlace : (⟨"NinthStep", "fullestPlace", "()I"⟩ : MethodName).cls = "NinthStep" ∧ (⟨"NinthStep", "fullestPlace", "()I"⟩ : MethodName).cls ≠ "java/lang/invoke/MethodHandle" ∧ (⟨"NinthStep", "fullestPlace", "()I"⟩ : MethodName).cls ≠ "java/lang/invoke/VarHandle" ∧ (parseMethodDescriptor (⟨"NinthStep", "fullestPlace", "()I"⟩ : MethodName).desc).map (fun d => d.parameters.length) = some 0 := by decide +kernel
