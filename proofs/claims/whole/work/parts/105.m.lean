def g_N_stopsBy_27  : Nat → ns_St → Nat → Int64 → Int32 → Option (Int64 × ns_St)
  | 0, _, _, _, _ => none
  | f + 1, σ, a0, x5, x7 => drf (σ.2.2 a0 0) fun b22 => grd (ns_kd b22 = 7) <| drf (σ.2.2 b22 0) fun b23 => grd (ns_kd b23 = 1) <| ite2 ((σ.1 b23 0) < x7) (some (x5, σ)) (drf (σ.2.2 a0 8) fun b25 => grd (ns_kd b25 = 2) <| drf (σ.2.2 a0 0) fun b26 => grd (ns_kd b26 = 7) <| drf (σ.2.2 b26 0) fun b27 => grd (ns_kd b27 = 1) <| cl2 (g_Mule_makeStep σ b25 b27 (0 : Int32)) fun r29 σ28 => ite2 (r29 = 0) (bnd (x7 + 1) fun z31 => (g_N_stopsBy_27 f) σ28 a0 x5 z31) (cl2 (g_N_bit σ28 x7) fun r33 σ32 => bnd (x5 ||| r33) fun z34 => bnd (x7 + 1) fun z35 => (g_N_stopsBy_27 f) σ32 a0 z34 z35))
def g_N_stopsBy (σ : ns_St) (a0 : Nat) (a1 : Nat) (x2 : Int32) (x3 : Int32) (x4 : Int32) : Option (Int64 × ns_St) := grd (ns_kd a0 = 8) <| grd (ns_kd a1 = 2) <| drf (σ.2.2 a0 8) fun b36 => grd (ns_kd b36 = 2) <| cl2 (g_Mule_takeFrom σ b36 a1) fun r38 σ37 => drf (σ37.2.2 a0 8) fun b39 => grd (ns_kd b39 = 2) <| cl2 (g_Mule_standAt σ37 b39 x2 x4 x3) fun r41 σ40 => bnd (x2 + (1 : Int32)) fun z42 => g_N_stopsBy_27 ns_F σ40 a0 (0 : Int64) z42
theorem t_N_stopsBy_27 (G : ns_G) (l : Launch) {p : Program} {e : Env} {s : State} {m : MethodId} {args : Array Value} {below : List Frame} {meth : Method} {c : Code} (C : ns_Cx G p s m args meth c prog_1_method_54_code "NinthStep" 8) (hr : meth.sig.returnType = (some .long)) {r : Int64} {σ' : ns_St}  : ∀ (f : Nat) (σ : ns_St) (a0 : Nat) (x5 : Int64) (x7 : Int32) (hk_a0 : ns_kd a0 = 8), g_N_stopsBy_27 f σ a0 x5 x7 = some (r, σ') → VV G p l e { frames := 2, cells := 0, slots := 0, locals := 45 } s m args below meth c 8 0 0 (MQ below (ns_Qc G (some (.long r)) ns_N σ') args s 0 0 (ns_A G)) ns_N σ 27 [(0, .ref (G.1 + a0)), (5, .long x5), (7, .int x7)] [] := by
  intro f
  induction f with
  | zero =>
    intro σ a0 x5 x7 hk_a0 hf
    cases hf
  | succ f ih =>
    intro σ a0 x5 x7 hk_a0 hf
    rw [g_N_stopsBy_27] at hf
    refine v_iload C 7 2 rfl 29 rfl (by decide +kernel) ?_
    refine v_aload_n C 0 0 rfl 30 rfl (by decide +kernel) ?_
    obtain ⟨b22, hb22, hf⟩ := drf_e hf
    obtain ⟨hk_b22, hf⟩ := grd_e hf
    refine v_getR C 8 0 hb22 rfl nin_8 (ns_kd_lt hk_a0 (by decide)) hk_a0 (by decide) (by decide) rfl 12 tw_287 rfl 33 rfl (by decide +kernel) ?_
    obtain ⟨b23, hb23, hf⟩ := drf_e hf
    obtain ⟨hk_b23, hf⟩ := grd_e hf
    refine v_getRN C 7 0 hb23 rfl nin_7 (ns_kd_lt hk_b22 (by decide)) hk_b22 (by decide) (by decide) rfl 138 tw_128 rfl 36 rfl (by decide +kernel) ?_
    refine v_getIN C 1 0 rfl nin_1 (ns_kd_lt hk_b23 (by decide)) hk_b23 (by decide) (by decide) rfl 147 tw_45 rfl 39 rfl (by decide +kernel) ?_
    refine v_icmp_gt C 76 42 rfl (by decide +kernel) (fun h24 => ?_) (fun h24 => ?_)
    · have hf := ite2_t hf h24
      refine v_lload C 5 1 rfl 78 rfl (by decide +kernel) ?_
      obtain ⟨rfl, rfl⟩ := ret_e hf
      exact v_lret C hr (by decide +kernel)
    · have hf := ite2_f hf h24
      refine v_aload_n C 0 0 rfl 43 rfl (by decide +kernel) ?_
      obtain ⟨b25, hb25, hf⟩ := drf_e hf
      obtain ⟨hk_b25, hf⟩ := grd_e hf
      refine v_getR C 8 8 hb25 rfl nin_8 (ns_kd_lt hk_a0 (by decide)) hk_a0 (by decide) (by decide) rfl 59 tw_295 rfl 46 rfl (by decide +kernel) ?_
      refine v_aload_n C 0 0 rfl 47 rfl (by decide +kernel) ?_
      obtain ⟨b26, hb26, hf⟩ := drf_e hf
      obtain ⟨hk_b26, hf⟩ := grd_e hf
      refine v_getR C 8 0 hb26 rfl nin_8 (ns_kd_lt hk_a0 (by decide)) hk_a0 (by decide) (by decide) rfl 12 tw_287 rfl 50 rfl (by decide +kernel) ?_
      obtain ⟨b27, hb27, hf⟩ := drf_e hf
      obtain ⟨hk_b27, hf⟩ := grd_e hf
      refine v_getRN C 7 0 hb27 rfl nin_7 (ns_kd_lt hk_b26 (by decide)) hk_b26 (by decide) (by decide) rfl 138 tw_128 rfl 53 rfl (by decide +kernel) ?_
      refine v_iconst C (0) (0) (by decide) 54 rfl (by decide +kernel) ?_
      obtain ⟨r29, σ28, hcr29, hf⟩ := cl2_e hf
      refine v_cVN C 2 rfl (ns_kd_lt hk_b25 (by decide)) hk_b25 (by decide) [.ref (G.1 + b27), .int (0 : Int32)] [] (c_Mule_makeStep G l σ b25 b27 (0 : Int32) hcr29) 357 2 tw_656 tw_653 tw_655 ts_32 tw_4 hd_Mule_makeStep rfl ⟨(Nat.le_of_ble_eq_true rfl), (Nat.le_of_ble_eq_true rfl)⟩ ⟨(Nat.le_of_ble_eq_true rfl), (Nat.le_of_ble_eq_true rfl)⟩ (Nat.le_of_ble_eq_true rfl) rfl 57 rfl (by decide +kernel) [.int r29] rfl ?_
      refine v_if_eq C 70 60 rfl (by decide +kernel) (fun h30 => ?_) (fun h30 => ?_)
      · have hf := ite2_t hf h30
        obtain ⟨z31, hz31, hf⟩ := bnd_e hf
        refine v_iinc C 7 (1) 2 z31 rfl (by rw [hz31]; rfl) [(7, .int z31), (0, .ref (G.1 + a0)), (5, .long x5)] (by decide) rfl 73 rfl (by decide +kernel) ?_
        refine v_goto C 27 (by decide +kernel) ?_
        refine v_sub [1, 2, 0] rfl ?_
        exact ih σ28 a0 x5 z31 hk_a0 hf
      · have hf := ite2_f hf h30
        refine v_lload C 5 1 rfl 62 rfl (by decide +kernel) ?_
        refine v_iload C 7 2 rfl 64 rfl (by decide +kernel) ?_
        obtain ⟨r33, σ32, hcr33, hf⟩ := cl2_e hf
        refine v_cS C [.int x7] [.long x5] (c_N_bit G l σ28 x7 hcr33) 361 1 tw_468 tw_664 tw_467 tw_1 hd_N_bit rfl ⟨(Nat.le_of_ble_eq_true rfl), (Nat.le_of_ble_eq_true rfl)⟩ ⟨(Nat.le_of_ble_eq_true rfl), (Nat.le_of_ble_eq_true rfl)⟩ (Nat.le_of_ble_eq_true rfl) rfl 67 rfl (by decide +kernel) [.long r33, .long x5] rfl ?_
        refine v_lor C 68 rfl (by decide +kernel) ?_
        obtain ⟨z34, hz34, hf⟩ := bnd_e hf
        refine v_nmJ hz34 ?_
        refine v_lstore C 5 [(5, .long z34), (0, .ref (G.1 + a0)), (7, .int x7)] (by decide) rfl 70 rfl (by decide +kernel) ?_
        obtain ⟨z35, hz35, hf⟩ := bnd_e hf
        refine v_iinc C 7 (1) 2 z35 rfl (by rw [hz35]; rfl) [(7, .int z35), (5, .long z34), (0, .ref (G.1 + a0))] (by decide) rfl 73 rfl (by decide +kernel) ?_
        refine v_goto C 27 (by decide +kernel) ?_
        refine v_sub [2, 1, 0] rfl ?_
        exact ih σ32 a0 z34 z35 hk_a0 hf
theorem c_N_stopsBy (G : ns_G) (l : Launch) (σ : ns_St) (a0 : Nat) (a1 : Nat) (x2 : Int32) (x3 : Int32) (x4 : Int32) {r : Int64} {σ' : ns_St} (hf : g_N_stopsBy σ a0 a1 x2 x3 x4 = some (r, σ')) : ns_ok G l ⟨"NinthStep", "stopsBy", "(LNinthStep$Mule;III)J"⟩ prog_1_method_54_code 8 (some .long) 2 45 0 0 [.ref (G.1 + a0), .ref (G.1 + a1), .int x2, .int x3, .int x4] ns_N σ (some (.long r)) ns_N σ' := by
  refine v_open (by decide) (Nat.le_of_ble_eq_true rfl) rfl ?_
  intro p e s m below meth c C hr _
  have C : ns_Cx G p s m _ meth c prog_1_method_54_code "NinthStep" 8 := C
  unfold g_N_stopsBy at hf
  obtain ⟨hk_a0, hf⟩ := grd_e hf
  obtain ⟨hk_a1, hf⟩ := grd_e hf
  refine v_aload_n C 0 0 rfl 1 rfl (by decide +kernel) ?_
  obtain ⟨b36, hb36, hf⟩ := drf_e hf
  obtain ⟨hk_b36, hf⟩ := grd_e hf
  refine v_getR C 8 8 hb36 rfl nin_8 (ns_kd_lt hk_a0 (by decide)) hk_a0 (by decide) (by decide) rfl 59 tw_295 rfl 4 rfl (by decide +kernel) ?_
  refine v_aload_n C 1 1 rfl 5 rfl (by decide +kernel) ?_
  obtain ⟨r38, σ37, hcr38, hf⟩ := cl2_e hf
  refine v_cVN C 2 rfl (ns_kd_lt hk_b36 (by decide)) hk_b36 (by decide) [.ref (G.1 + a1)] [] (c_Mule_takeFrom G l σ b36 a1 hcr38) 352 1 tw_522 tw_648 tw_521 ts_19 tw_4 hd_Mule_takeFrom rfl ⟨(Nat.le_of_ble_eq_true rfl), (Nat.le_of_ble_eq_true rfl)⟩ ⟨(Nat.le_of_ble_eq_true rfl), (Nat.le_of_ble_eq_true rfl)⟩ (Nat.le_of_ble_eq_true rfl) rfl 8 rfl (by decide +kernel) [] rfl ?_
  refine v_aload_n C 0 0 rfl 9 rfl (by decide +kernel) ?_
  obtain ⟨b39, hb39, hf⟩ := drf_e hf
  obtain ⟨hk_b39, hf⟩ := grd_e hf
  refine v_getR C 8 8 hb39 rfl nin_8 (ns_kd_lt hk_a0 (by decide)) hk_a0 (by decide) (by decide) rfl 59 tw_295 rfl 12 rfl (by decide +kernel) ?_
  refine v_iload_n C 2 2 rfl 13 rfl (by decide +kernel) ?_
  refine v_iload C 4 4 rfl 15 rfl (by decide +kernel) ?_
  refine v_iload_n C 3 3 rfl 16 rfl (by decide +kernel) ?_
  obtain ⟨r41, σ40, hcr41, hf⟩ := cl2_e hf
  refine v_cVN C 2 rfl (ns_kd_lt hk_b39 (by decide)) hk_b39 (by decide) [.int x2, .int x4, .int x3] [] (c_Mule_standAt G l σ37 b39 x2 x4 x3 hcr41) 354 3 tw_652 tw_649 tw_651 ts_31 tw_4 hd_Mule_standAt rfl ⟨(Nat.le_of_ble_eq_true rfl), (Nat.le_of_ble_eq_true rfl)⟩ ⟨(Nat.le_of_ble_eq_true rfl), (Nat.le_of_ble_eq_true rfl)⟩ (Nat.le_of_ble_eq_true rfl) rfl 19 rfl (by decide +kernel) [] rfl ?_
  refine v_lconst C 0 (0) (by decide) 20 rfl (by decide +kernel) ?_
  refine v_lstore C 5 [(5, .long (0 : Int64)), (0, .ref (G.1 + a0)), (1, .ref (G.1 + a1)), (2, .int x2), (3, .int x3), (4, .int x4)] (by decide) rfl 22 rfl (by decide +kernel) ?_
  refine v_iload_n C 2 3 rfl 23 rfl (by decide +kernel) ?_
  refine v_iconst C (1) (1) (by decide) 24 rfl (by decide +kernel) ?_
  refine v_iadd C 25 rfl (by decide +kernel) ?_
  obtain ⟨z42, hz42, hf⟩ := bnd_e hf
  refine v_nmI hz42 ?_
  refine v_istore C 7 [(7, .int z42), (5, .long (0 : Int64)), (0, .ref (G.1 + a0)), (1, .ref (G.1 + a1)), (2, .int x2), (3, .int x3), (4, .int x4)] (by decide) rfl 27 rfl (by decide +kernel) ?_
  refine v_sub [2, 1, 0] rfl ?_
  exact t_N_stopsBy_27 G l C hr  ns_F σ40 a0 (0 : Int64) z42 hk_a0 hf
theorem hd_N_stopsBy : (⟨"NinthStep", "stopsBy", "(LNinthStep$Mule;III)J"⟩ : MethodName).cls = "NinthStep" ∧ (⟨"NinthStep", "stopsBy", "(LNinthStep$Mule;III)J"⟩ : MethodName).cls ≠ "java/lang/invoke/MethodHandle" ∧ (⟨"NinthStep", "stopsBy", "(LNinthStep$Mule;III)J"⟩ : MethodName).cls ≠ "java/lang/invoke/VarHandle" ∧ (parseMethodDescriptor (⟨"NinthStep", "stopsBy", "(LNinthStep$Mule;III)J"⟩ : MethodName).desc).map (fun d => d.parameters.length) = some 4 := by decide +kernel
def g_N_stopsOf (σ : ns_St) (a0 : Nat) (a1 : Nat) : Option (Int64 × ns_St) := grd (ns_kd a0 = 8) <| grd (ns_kd a1 = 2) <| cl2 (g_N_stopsBy σ a0 a1 (σ.1 a1 2) (σ.1 a1 1) (σ.1 a1 3)) fun r4 σ3 => some (r4, σ3)
theorem c_N_stopsOf (G : ns_G) (l : Launch) (σ : ns_St) (a0 : Nat) (a1 : Nat) {r : Int64} {σ' : ns_St} (hf : g_N_stopsOf σ a0 a1 = some (r, σ')) : ns_ok G l ⟨"NinthStep", "stopsOf", "(LNinthStep$Mule;)J"⟩ prog_1_method_53_code 2 (some .long) 3 72 0 0 [.ref (G.1 + a0), .ref (G.1 + a1)] ns_N σ (some (.long r)) ns_N σ' := by
  refine v_open (by decide) (Nat.le_of_ble_eq_true rfl) rfl ?_
  intro p e s m below meth c C hr _
  have C : ns_Cx G p s m _ meth c prog_1_method_53_code "NinthStep" 2 := C
  unfold g_N_stopsOf at hf
  obtain ⟨hk_a0, hf⟩ := grd_e hf
  obtain ⟨hk_a1, hf⟩ := grd_e hf
  refine v_aload_n C 0 0 rfl 1 rfl (by decide +kernel) ?_
  refine v_aload_n C 1 1 rfl 2 rfl (by decide +kernel) ?_
  refine v_aload_n C 1 1 rfl 3 rfl (by decide +kernel) ?_
  refine v_getIN C 2 2 rfl nin_2 (ns_kd_lt hk_a1 (by decide)) hk_a1 (by decide) (by decide) rfl 179 tw_93 rfl 6 rfl (by decide +kernel) ?_
  refine v_aload_n C 1 1 rfl 7 rfl (by decide +kernel) ?_
  refine v_getIN C 2 1 rfl nin_2 (ns_kd_lt hk_a1 (by decide)) hk_a1 (by decide) (by decide) rfl 176 tw_86 rfl 10 rfl (by decide +kernel) ?_
  refine v_aload_n C 1 1 rfl 11 rfl (by decide +kernel) ?_
  refine v_getIN C 2 3 rfl nin_2 (ns_kd_lt hk_a1 (by decide)) hk_a1 (by decide) (by decide) rfl 182 tw_97 rfl 14 rfl (by decide +kernel) ?_
  obtain ⟨r4, σ3, hcr4, hf⟩ := cl2_e hf
  refine v_cV C 8 rfl (ns_kd_lt hk_a0 (by decide)) hk_a0 (by decide) [.ref (G.1 + a1), .int (σ.1 a1 2), .int (σ.1 a1 1), .int (σ.1 a1 3)] [] (c_N_stopsBy G l σ a0 a1 (σ.1 a1 2) (σ.1 a1 1) (σ.1 a1 3) hcr4) 258 4 tw_647 tw_644 tw_646 ts_30 tw_1 hd_N_stopsBy rfl ⟨(Nat.le_of_ble_eq_true rfl), (Nat.le_of_ble_eq_true rfl)⟩ ⟨(Nat.le_of_ble_eq_true rfl), (Nat.le_of_ble_eq_true rfl)⟩ (Nat.le_of_ble_eq_true rfl) rfl 17 rfl (by decide +kernel) [.long r4] rfl ?_
  obtain ⟨rfl, rfl⟩ := ret_e hf
  exact v_lret C hr (by decide +kernel)
theorem hd_N_stopsOf : (⟨"NinthStep", "stopsOf", "(LNinthStep$Mule;)J"⟩ : MethodName).cls = "NinthStep" ∧ (⟨"NinthStep", "stopsOf", "(LNinthStep$Mule;)J"⟩ : MethodName).cls ≠ "java/lang/invoke/MethodHandle" ∧ (⟨"NinthStep", "stopsOf", "(LNinthStep$Mule;)J"⟩ : MethodName).cls ≠ "java/lang/invoke/VarHandle" ∧ (parseMethodDescriptor (⟨"NinthStep", "stopsOf", "(LNinthStep$Mule;)J"⟩ : MethodName).desc).map (fun d => d.parameters.length) = some 1 := by decide +kernel
def g_N_stops_62  : Nat → ns_St → Int32 → Int64 → Int32 → Option (Int32 × ns_St)
  | 0, _, _, _, _ => none
  | f + 1, σ, x2, x4, x6 => ite2 (x2 ≤ x6) (cl2 (g_Long_numberOfTrailingZeros σ x4) fun r27 σ26 => some (r27, σ26)) (bnd (x4 &&& (x4 - (1 : Int64))) fun z28 => bnd (x6 + 1) fun z29 => (g_N_stops_62 f) σ x2 z28 z29)
def g_N_stops (σ : ns_St) (a0 : Nat) (x1 : Int32) (x2 : Int32) : Option (Int32 × ns_St) := grd (ns_kd a0 = 8) <| drf (σ.2.2 a0 0) fun b30 => grd (ns_kd b30 = 7) <| cl2 (g_World_muleAt σ b30 x1) fun r32 σ31 => onul r32 (cl2 (g_N_refuse σ31 a0 (-2 : Int32)) fun r35 σ34 => some (r35, σ34)) (fun b33 => grd (ns_kd b33 = 2) <| ite2 ((-1 : Int32) ≤ x2) (cl2 (g_N_stopsOf σ31 a0 b33) fun r38 σ37 => ite2 (x2 = (-1 : Int32)) (cl2 (g_Long_bitCount σ37 r38) fun r46 σ45 => some (r46, σ45)) (cl2 (g_Long_bitCount σ37 r38) fun r41 σ40 => ite2 (x2 < r41) (g_N_stops_62 ns_F σ40 x2 r38 (0 : Int32)) (cl2 (g_N_refuse σ40 a0 (-5 : Int32)) fun r44 σ43 => some (r44, σ43)))) (cl2 (g_N_refuse σ31 a0 (-2 : Int32)) fun r48 σ47 => some (r48, σ47)))
theorem t_N_stops_62 (G : ns_G) (l : Launch) {p : Program} {e : Env} {s : State} {m : MethodId} {args : Array Value} {below : List Frame} {meth : Method} {c : Code} (C : ns_Cx G p s m args meth c prog_1_method_20_code "NinthStep" 7) (hr : meth.sig.returnType = (some .int)) {r : Int32} {σ' : ns_St}  : ∀ (f : Nat) (σ : ns_St) (x2 : Int32) (x4 : Int64) (x6 : Int32) , g_N_stops_62 f σ x2 x4 x6 = some (r, σ') → VV G p l e { frames := 4, cells := 0, slots := 0, locals := 93 } s m args below meth c 7 0 0 (MQ below (ns_Qc G (some (.int r)) ns_N σ') args s 0 0 (ns_A G)) ns_N σ 62 [(2, .int x2), (4, .long x4), (6, .int x6)] [] := by
  intro f
  induction f with
  | zero =>
    intro σ x2 x4 x6 hf
    cases hf
  | succ f ih =>
    intro σ x2 x4 x6 hf
    rw [g_N_stops_62] at hf
    refine v_iload C 6 2 rfl 64 rfl (by decide +kernel) ?_
    refine v_iload_n C 2 0 rfl 65 rfl (by decide +kernel) ?_
    refine v_icmp_ge C 83 68 rfl (by decide +kernel) (fun h25 => ?_) (fun h25 => ?_)
    · have hf := ite2_t hf h25
      refine v_lload C 4 1 rfl 85 rfl (by decide +kernel) ?_
      obtain ⟨r27, σ26, hcr27, hf⟩ := cl2_e hf
      refine v_cS C [.long x4] [] (c_Long_numberOfTrailingZeros G l σ x4 hcr27) 219 1 tw_419 tw_417 tw_418 tw_12 hd_Long_numberOfTrailingZeros rfl ⟨(Nat.le_of_ble_eq_true rfl), (Nat.le_of_ble_eq_true rfl)⟩ ⟨(Nat.le_of_ble_eq_true rfl), (Nat.le_of_ble_eq_true rfl)⟩ (Nat.le_of_ble_eq_true rfl) rfl 88 rfl (by decide +kernel) [.int r27] rfl ?_
      obtain ⟨rfl, rfl⟩ := ret_e hf
      exact v_iret C hr (by decide +kernel)
    · have hf := ite2_f hf h25
      refine v_lload C 4 1 rfl 70 rfl (by decide +kernel) ?_
      refine v_lload C 4 1 rfl 72 rfl (by decide +kernel) ?_
      refine v_lconst C 1 (1) (by decide) 73 rfl (by decide +kernel) ?_
      refine v_lsub C 74 rfl (by decide +kernel) ?_
      refine v_land C 75 rfl (by decide +kernel) ?_
      obtain ⟨z28, hz28, hf⟩ := bnd_e hf
      refine v_nmJ hz28 ?_
      refine v_lstore C 4 [(4, .long z28), (2, .int x2), (6, .int x6)] (by decide) rfl 77 rfl (by decide +kernel) ?_
      obtain ⟨z29, hz29, hf⟩ := bnd_e hf
      refine v_iinc C 6 (1) 2 z29 rfl (by rw [hz29]; rfl) [(6, .int z29), (4, .long z28), (2, .int x2)] (by decide) rfl 80 rfl (by decide +kernel) ?_
      refine v_goto C 62 (by decide +kernel) ?_
      refine v_sub [2, 1, 0] rfl ?_
      exact ih σ x2 z28 z29 hf
theorem c_N_stops (G : ns_G) (l : Launch) (σ : ns_St) (a0 : Nat) (x1 : Int32) (x2 : Int32) {r : Int32} {σ' : ns_St} (hf : g_N_stops σ a0 x1 x2 = some (r, σ')) : ns_ok G l ⟨"NinthStep", "stops", "(II)I"⟩ prog_1_method_20_code 7 (some .int) 4 93 0 0 [.ref (G.1 + a0), .int x1, .int x2] ns_N σ (some (.int r)) ns_N σ' := by
  refine v_open (by decide) (Nat.le_of_ble_eq_true rfl) rfl ?_
  intro p e s m below meth c C hr _
  have C : ns_Cx G p s m _ meth c prog_1_method_20_code "NinthStep" 7 := C
  unfold g_N_stops at hf
  obtain ⟨hk_a0, hf⟩ := grd_e hf
  refine v_aload_n C 0 0 rfl 1 rfl (by decide +kernel) ?_
  obtain ⟨b30, hb30, hf⟩ := drf_e hf
  obtain ⟨hk_b30, hf⟩ := grd_e hf
  refine v_getR C 8 0 hb30 rfl nin_8 (ns_kd_lt hk_a0 (by decide)) hk_a0 (by decide) (by decide) rfl 12 tw_287 rfl 4 rfl (by decide +kernel) ?_
  refine v_iload_n C 1 1 rfl 5 rfl (by decide +kernel) ?_
  obtain ⟨r32, σ31, hcr32, hf⟩ := cl2_e hf
  rcases r32 with _ | b33
  · have hf := onul_n hf
    refine v_cVN C 7 rfl (ns_kd_lt hk_b30 (by decide)) hk_b30 (by decide) [.int x1] [] (c_World_muleAt G l σ b30 x1 hcr32) 120 1 tw_390 tw_387 tw_389 ts_7 tw_2 hd_World_muleAt rfl ⟨(Nat.le_of_ble_eq_true rfl), (Nat.le_of_ble_eq_true rfl)⟩ ⟨(Nat.le_of_ble_eq_true rfl), (Nat.le_of_ble_eq_true rfl)⟩ (Nat.le_of_ble_eq_true rfl) rfl 8 rfl (by decide +kernel) [.null] rfl ?_
    refine v_astore_nN C 3 [(3, .null), (0, .ref (G.1 + a0)), (1, .int x1), (2, .int x2)] (by decide) rfl 9 rfl (by decide +kernel) ?_
    refine v_aload_nN C 3 0 rfl 10 rfl (by decide +kernel) ?_
    refine v_ifnullN C 18 (by decide +kernel) ?_
    refine v_aload_n C 0 1 rfl 19 rfl (by decide +kernel) ?_
    refine v_bipush C (-2) (-2) (by decide) 21 rfl (by decide +kernel) ?_
    obtain ⟨r35, σ34, hcr35, hf⟩ := cl2_e hf
    refine v_cV C 8 rfl (ns_kd_lt hk_a0 (by decide)) hk_a0 (by decide) [.int (-2 : Int32)] [] (c_N_refuse G l σ31 a0 (-2 : Int32) hcr35) 79 1 tw_338 tw_335 tw_337 ts_1 tw_1 hd_N_refuse rfl ⟨(Nat.le_of_ble_eq_true rfl), (Nat.le_of_ble_eq_true rfl)⟩ ⟨(Nat.le_of_ble_eq_true rfl), (Nat.le_of_ble_eq_true rfl)⟩ (Nat.le_of_ble_eq_true rfl) rfl 24 rfl (by decide +kernel) [.int r35] rfl ?_
    obtain ⟨rfl, rfl⟩ := ret_e hf
    exact v_iret C hr (by decide +kernel)
  · have hf := onul_s hf
    obtain ⟨hk_b33, hf⟩ := grd_e hf
    refine v_cVN C 7 rfl (ns_kd_lt hk_b30 (by decide)) hk_b30 (by decide) [.int x1] [] (c_World_muleAt G l σ b30 x1 hcr32) 120 1 tw_390 tw_387 tw_389 ts_7 tw_2 hd_World_muleAt rfl ⟨(Nat.le_of_ble_eq_true rfl), (Nat.le_of_ble_eq_true rfl)⟩ ⟨(Nat.le_of_ble_eq_true rfl), (Nat.le_of_ble_eq_true rfl)⟩ (Nat.le_of_ble_eq_true rfl) rfl 8 rfl (by decide +kernel) [.ref (G.1 + b33)] rfl ?_
    refine v_astore_n C 3 [(3, .ref (G.1 + b33)), (0, .ref (G.1 + a0)), (1, .int x1), (2, .int x2)] (by decide) rfl 9 rfl (by decide +kernel) ?_
    refine v_aload_n C 3 0 rfl 10 rfl (by decide +kernel) ?_
    refine v_ifnull C 18 13 rfl (by decide +kernel) ?_
    refine v_iload_n C 2 3 rfl 14 rfl (by decide +kernel) ?_
    refine v_iconst C (-1) (-1) (by decide) 15 rfl (by decide +kernel) ?_
    refine v_icmp_ge C 25 18 rfl (by decide +kernel) (fun h36 => ?_) (fun h36 => ?_)
    · have hf := ite2_t hf h36
      refine v_aload_n C 0 1 rfl 26 rfl (by decide +kernel) ?_
      refine v_aload_n C 3 0 rfl 27 rfl (by decide +kernel) ?_
      obtain ⟨r38, σ37, hcr38, hf⟩ := cl2_e hf
      refine v_cV C 8 rfl (ns_kd_lt hk_a0 (by decide)) hk_a0 (by decide) [.ref (G.1 + b33)] [] (c_N_stopsOf G l σ31 a0 b33 hcr38) 209 1 tw_643 tw_640 tw_642 ts_29 tw_1 hd_N_stopsOf rfl ⟨(Nat.le_of_ble_eq_true rfl), (Nat.le_of_ble_eq_true rfl)⟩ ⟨(Nat.le_of_ble_eq_true rfl), (Nat.le_of_ble_eq_true rfl)⟩ (Nat.le_of_ble_eq_true rfl) rfl 30 rfl (by decide +kernel) [.long r38] rfl ?_
      refine v_lstore C 4 [(4, .long r38), (3, .ref (G.1 + b33)), (0, .ref (G.1 + a0)), (1, .int x1), (2, .int x2)] (by decide) rfl 32 rfl (by decide +kernel) ?_
      refine v_iload_n C 2 4 rfl 33 rfl (by decide +kernel) ?_
      refine v_iconst C (-1) (-1) (by decide) 34 rfl (by decide +kernel) ?_
      refine v_icmp_ne C 43 37 rfl (by decide +kernel) (fun h39 => ?_) (fun h39 => ?_)
      · have hf := ite2_f hf h39
        refine v_iload_n C 2 4 rfl 44 rfl (by decide +kernel) ?_
        refine v_lload C 4 0 rfl 46 rfl (by decide +kernel) ?_
        obtain ⟨r41, σ40, hcr41, hf⟩ := cl2_e hf
        refine v_cS C [.long r38] [.int x2] (c_Long_bitCount G l σ37 r38 hcr41) 213 1 tw_410 tw_408 tw_409 tw_12 hd_Long_bitCount rfl ⟨(Nat.le_of_ble_eq_true rfl), (Nat.le_of_ble_eq_true rfl)⟩ ⟨(Nat.le_of_ble_eq_true rfl), (Nat.le_of_ble_eq_true rfl)⟩ (Nat.le_of_ble_eq_true rfl) rfl 49 rfl (by decide +kernel) [.int r41, .int x2] rfl ?_
        refine v_icmp_lt C 59 52 rfl (by decide +kernel) (fun h42 => ?_) (fun h42 => ?_)
        · have hf := ite2_t hf h42
          refine v_iconst C (0) (0) (by decide) 60 rfl (by decide +kernel) ?_
          refine v_istore C 6 [(6, .int (0 : Int32)), (4, .long r38), (3, .ref (G.1 + b33)), (0, .ref (G.1 + a0)), (1, .int x1), (2, .int x2)] (by decide) rfl 62 rfl (by decide +kernel) ?_
          refine v_sub [5, 1, 0] rfl ?_
          exact t_N_stops_62 G l C hr  ns_F σ40 x2 r38 (0 : Int32) hf
        · have hf := ite2_f hf h42
          refine v_aload_n C 0 2 rfl 53 rfl (by decide +kernel) ?_
          refine v_bipush C (-5) (-5) (by decide) 55 rfl (by decide +kernel) ?_
          obtain ⟨r44, σ43, hcr44, hf⟩ := cl2_e hf
          refine v_cV C 8 rfl (ns_kd_lt hk_a0 (by decide)) hk_a0 (by decide) [.int (-5 : Int32)] [] (c_N_refuse G l σ40 a0 (-5 : Int32) hcr44) 79 1 tw_338 tw_335 tw_337 ts_1 tw_1 hd_N_refuse rfl ⟨(Nat.le_of_ble_eq_true rfl), (Nat.le_of_ble_eq_true rfl)⟩ ⟨(Nat.le_of_ble_eq_true rfl), (Nat.le_of_ble_eq_true rfl)⟩ (Nat.le_of_ble_eq_true rfl) rfl 58 rfl (by decide +kernel) [.int r44] rfl ?_
          obtain ⟨rfl, rfl⟩ := ret_e hf
          exact v_iret C hr (by decide +kernel)
      · have hf := ite2_t hf h39
        refine v_lload C 4 0 rfl 39 rfl (by decide +kernel) ?_
        obtain ⟨r46, σ45, hcr46, hf⟩ := cl2_e hf
        refine v_cS C [.long r38] [] (c_Long_bitCount G l σ37 r38 hcr46) 213 1 tw_410 tw_408 tw_409 tw_12 hd_Long_bitCount rfl ⟨(Nat.le_of_ble_eq_true rfl), (Nat.le_of_ble_eq_true rfl)⟩ ⟨(Nat.le_of_ble_eq_true rfl), (Nat.le_of_ble_eq_true rfl)⟩ (Nat.le_of_ble_eq_true rfl) rfl 42 rfl (by decide +kernel) [.int r46] rfl ?_
        obtain ⟨rfl, rfl⟩ := ret_e hf
        exact v_iret C hr (by decide +kernel)
    · have hf := ite2_f hf h36
      refine v_aload_n C 0 1 rfl 19 rfl (by decide +kernel) ?_
      refine v_bipush C (-2) (-2) (by decide) 21 rfl (by decide +kernel) ?_
      obtain ⟨r48, σ47, hcr48, hf⟩ := cl2_e hf
      refine v_cV C 8 rfl (ns_kd_lt hk_a0 (by decide)) hk_a0 (by decide) [.int (-2 : Int32)] [] (c_N_refuse G l σ31 a0 (-2 : Int32) hcr48) 79 1 tw_338 tw_335 tw_337 ts_1 tw_1 hd_N_refuse rfl ⟨(Nat.le_of_ble_eq_true rfl), (Nat.le_of_ble_eq_true rfl)⟩ ⟨(Nat.le_of_ble_eq_true rfl), (Nat.le_of_ble_eq_true rfl)⟩ (Nat.le_of_ble_eq_true rfl) rfl 24 rfl (by decide +kernel) [.int r48] rfl ?_
      obtain ⟨rfl, rfl⟩ := ret_e hf
      exact v_iret C hr (by decide +kernel)
theorem hd_N_stops : (⟨"NinthStep", "stops", "(II)I"⟩ : MethodName).cls = "NinthStep" ∧ (⟨"NinthStep", "stops", "(II)I"⟩ : MethodName).cls ≠ "java/lang/invoke/MethodHandle" ∧ (⟨"NinthStep", "stops", "(II)I"⟩ : MethodName).cls ≠ "java/lang/invoke/VarHandle" ∧ (parseMethodDescriptor (⟨"NinthStep", "stops", "(II)I"⟩ : MethodName).desc).map (fun d => d.parameters.length) = some 2 := by decide +kernel
def g_N_minutesOf (σ : ns_St) (a0 : Nat) (a1 : Nat) : Option (Int32 × ns_St) := grd (ns_kd a0 = 8) <| grd (ns_kd a1 = 2) <| drf (σ.2.2 a0 0) fun b7 => grd (ns_kd b7 = 7) <| drf (σ.2.2 b7 0) fun b8 => grd (ns_kd b8 = 1) <| cl2 (g_N_stopsOf σ a0 a1) fun r10 σ9 => cl2 (g_Long_bitCount σ9 r10) fun r12 σ11 => some ((((σ.1 b8 0) - (σ.1 a1 2)) + ((σ.1 a1 6) * r12)), σ11)
theorem c_N_minutesOf (G : ns_G) (l : Launch) (σ : ns_St) (a0 : Nat) (a1 : Nat) {r : Int32} {σ' : ns_St} (hf : g_N_minutesOf σ a0 a1 = some (r, σ')) : ns_ok G l ⟨"NinthStep", "minutesOf", "(LNinthStep$Mule;)I"⟩ prog_1_method_55_code 2 (some .int) 4 93 0 0 [.ref (G.1 + a0), .ref (G.1 + a1)] ns_N σ (some (.int r)) ns_N σ' := by
  refine v_open (by decide) (Nat.le_of_ble_eq_true rfl) rfl ?_
  intro p e s m below meth c C hr _
  have C : ns_Cx G p s m _ meth c prog_1_method_55_code "NinthStep" 2 := C
  unfold g_N_minutesOf at hf
  obtain ⟨hk_a0, hf⟩ := grd_e hf
  obtain ⟨hk_a1, hf⟩ := grd_e hf
  refine v_aload_n C 0 0 rfl 1 rfl (by decide +kernel) ?_
  obtain ⟨b7, hb7, hf⟩ := drf_e hf
  obtain ⟨hk_b7, hf⟩ := grd_e hf
  refine v_getR C 8 0 hb7 rfl nin_8 (ns_kd_lt hk_a0 (by decide)) hk_a0 (by decide) (by decide) rfl 12 tw_287 rfl 4 rfl (by decide +kernel) ?_
  obtain ⟨b8, hb8, hf⟩ := drf_e hf
  obtain ⟨hk_b8, hf⟩ := grd_e hf
  refine v_getRN C 7 0 hb8 rfl nin_7 (ns_kd_lt hk_b7 (by decide)) hk_b7 (by decide) (by decide) rfl 138 tw_128 rfl 7 rfl (by decide +kernel) ?_
  refine v_getIN C 1 0 rfl nin_1 (ns_kd_lt hk_b8 (by decide)) hk_b8 (by decide) (by decide) rfl 147 tw_45 rfl 10 rfl (by decide +kernel) ?_
  refine v_aload_n C 1 1 rfl 11 rfl (by decide +kernel) ?_
  refine v_getIN C 2 2 rfl nin_2 (ns_kd_lt hk_a1 (by decide)) hk_a1 (by decide) (by decide) rfl 179 tw_93 rfl 14 rfl (by decide +kernel) ?_
  refine v_isub C 15 rfl (by decide +kernel) ?_
  refine v_aload_n C 1 1 rfl 16 rfl (by decide +kernel) ?_
  refine v_getIN C 2 6 rfl nin_2 (ns_kd_lt hk_a1 (by decide)) hk_a1 (by decide) (by decide) rfl 340 tw_105 rfl 19 rfl (by decide +kernel) ?_
  refine v_aload_n C 0 0 rfl 20 rfl (by decide +kernel) ?_
  refine v_aload_n C 1 1 rfl 21 rfl (by decide +kernel) ?_
  obtain ⟨r10, σ9, hcr10, hf⟩ := cl2_e hf
  refine v_cV C 8 rfl (ns_kd_lt hk_a0 (by decide)) hk_a0 (by decide) [.ref (G.1 + a1)] [.int (σ.1 a1 6), .int ((σ.1 b8 0) - (σ.1 a1 2))] (c_N_stopsOf G l σ a0 a1 hcr10) 209 1 tw_643 tw_640 tw_642 ts_29 tw_1 hd_N_stopsOf rfl ⟨(Nat.le_of_ble_eq_true rfl), (Nat.le_of_ble_eq_true rfl)⟩ ⟨(Nat.le_of_ble_eq_true rfl), (Nat.le_of_ble_eq_true rfl)⟩ (Nat.le_of_ble_eq_true rfl) rfl 24 rfl (by decide +kernel) [.long r10, .int (σ.1 a1 6), .int ((σ.1 b8 0) - (σ.1 a1 2))] rfl ?_
  obtain ⟨r12, σ11, hcr12, hf⟩ := cl2_e hf
  refine v_cS C [.long r10] [.int (σ.1 a1 6), .int ((σ.1 b8 0) - (σ.1 a1 2))] (c_Long_bitCount G l σ9 r10 hcr12) 213 1 tw_410 tw_408 tw_409 tw_12 hd_Long_bitCount rfl ⟨(Nat.le_of_ble_eq_true rfl), (Nat.le_of_ble_eq_true rfl)⟩ ⟨(Nat.le_of_ble_eq_true rfl), (Nat.le_of_ble_eq_true rfl)⟩ (Nat.le_of_ble_eq_true rfl) rfl 27 rfl (by decide +kernel) [.int r12, .int (σ.1 a1 6), .int ((σ.1 b8 0) - (σ.1 a1 2))] rfl ?_
  refine v_imul C 28 rfl (by decide +kernel) ?_
  refine v_iadd C 29 rfl (by decide +kernel) ?_
  obtain ⟨rfl, rfl⟩ := ret_e hf
  exact v_iret C hr (by decide +kernel)
theorem hd_N_minutesOf : (⟨"NinthStep", "minutesOf", "(LNinthStep$Mule;)I"⟩ : MethodName).cls = "NinthStep" ∧ (⟨"NinthStep", "minutesOf", "(LNinthStep$Mule;)I"⟩ : MethodName).cls ≠ "java/lang/invoke/MethodHandle" ∧ (⟨"NinthStep", "minutesOf", "(LNinthStep$Mule;)I"⟩ : MethodName).cls ≠ "java/lang/invoke/VarHandle" ∧ (parseMethodDescriptor (⟨"NinthStep", "minutesOf", "(LNinthStep$Mule;)I"⟩ : MethodName).desc).map (fun d => d.parameters.length) = some 1 := by decide +kernel
def g_N_minutes (σ : ns_St) (a0 : Nat) (x1 : Int32) : Option (Int32 × ns_St) := grd (ns_kd a0 = 8) <| drf (σ.2.2 a0 0) fun b9 => grd (ns_kd b9 = 7) <| cl2 (g_World_muleAt σ b9 x1) fun r11 σ10 => onul r11 (cl2 (g_N_refuse σ10 a0 (-2 : Int32)) fun r14 σ13 => some (r14, σ13)) (fun b12 => grd (ns_kd b12 = 2) <| cl2 (g_N_minutesOf σ10 a0 b12) fun r16 σ15 => some (r16, σ15))
theorem c_N_minutes (G : ns_G) (l : Launch) (σ : ns_St) (a0 : Nat) (x1 : Int32) {r : Int32} {σ' : ns_St} (hf : g_N_minutes σ a0 x1 = some (r, σ')) : ns_ok G l ⟨"NinthStep", "minutes", "(I)I"⟩ prog_1_method_21_code 3 (some .int) 5 114 0 0 [.ref (G.1 + a0), .int x1] ns_N σ (some (.int r)) ns_N σ' := by
  refine v_open (by decide) (Nat.le_of_ble_eq_true rfl) rfl ?_
  intro p e s m below meth c C hr _
  have C : ns_Cx G p s m _ meth c prog_1_method_21_code "NinthStep" 3 := C
  unfold g_N_minutes at hf
  obtain ⟨hk_a0, hf⟩ := grd_e hf
  refine v_aload_n C 0 0 rfl 1 rfl (by decide +kernel) ?_
  obtain ⟨b9, hb9, hf⟩ := drf_e hf
  obtain ⟨hk_b9, hf⟩ := grd_e hf
  refine v_getR C 8 0 hb9 rfl nin_8 (ns_kd_lt hk_a0 (by decide)) hk_a0 (by decide) (by decide) rfl 12 tw_287 rfl 4 rfl (by decide +kernel) ?_
  refine v_iload_n C 1 1 rfl 5 rfl (by decide +kernel) ?_
  obtain ⟨r11, σ10, hcr11, hf⟩ := cl2_e hf
  rcases r11 with _ | b12
  · have hf := onul_n hf
    refine v_cVN C 7 rfl (ns_kd_lt hk_b9 (by decide)) hk_b9 (by decide) [.int x1] [] (c_World_muleAt G l σ b9 x1 hcr11) 120 1 tw_390 tw_387 tw_389 ts_7 tw_2 hd_World_muleAt rfl ⟨(Nat.le_of_ble_eq_true rfl), (Nat.le_of_ble_eq_true rfl)⟩ ⟨(Nat.le_of_ble_eq_true rfl), (Nat.le_of_ble_eq_true rfl)⟩ (Nat.le_of_ble_eq_true rfl) rfl 8 rfl (by decide +kernel) [.null] rfl ?_
    refine v_astore_nN C 2 [(2, .null), (0, .ref (G.1 + a0)), (1, .int x1)] (by decide) rfl 9 rfl (by decide +kernel) ?_
    refine v_aload_nN C 2 0 rfl 10 rfl (by decide +kernel) ?_
    refine v_ifnonnullN C 22 13 rfl (by decide +kernel) ?_
    refine v_aload_n C 0 1 rfl 14 rfl (by decide +kernel) ?_
    refine v_bipush C (-2) (-2) (by decide) 16 rfl (by decide +kernel) ?_
    obtain ⟨r14, σ13, hcr14, hf⟩ := cl2_e hf
    refine v_cV C 8 rfl (ns_kd_lt hk_a0 (by decide)) hk_a0 (by decide) [.int (-2 : Int32)] [] (c_N_refuse G l σ10 a0 (-2 : Int32) hcr14) 79 1 tw_338 tw_335 tw_337 ts_1 tw_1 hd_N_refuse rfl ⟨(Nat.le_of_ble_eq_true rfl), (Nat.le_of_ble_eq_true rfl)⟩ ⟨(Nat.le_of_ble_eq_true rfl), (Nat.le_of_ble_eq_true rfl)⟩ (Nat.le_of_ble_eq_true rfl) rfl 19 rfl (by decide +kernel) [.int r14] rfl ?_
    refine v_goto C 27 (by decide +kernel) ?_
    obtain ⟨rfl, rfl⟩ := ret_e hf
    exact v_iret C hr (by decide +kernel)
  · have hf := onul_s hf
    obtain ⟨hk_b12, hf⟩ := grd_e hf
    refine v_cVN C 7 rfl (ns_kd_lt hk_b9 (by decide)) hk_b9 (by decide) [.int x1] [] (c_World_muleAt G l σ b9 x1 hcr11) 120 1 tw_390 tw_387 tw_389 ts_7 tw_2 hd_World_muleAt rfl ⟨(Nat.le_of_ble_eq_true rfl), (Nat.le_of_ble_eq_true rfl)⟩ ⟨(Nat.le_of_ble_eq_true rfl), (Nat.le_of_ble_eq_true rfl)⟩ (Nat.le_of_ble_eq_true rfl) rfl 8 rfl (by decide +kernel) [.ref (G.1 + b12)] rfl ?_
    refine v_astore_n C 2 [(2, .ref (G.1 + b12)), (0, .ref (G.1 + a0)), (1, .int x1)] (by decide) rfl 9 rfl (by decide +kernel) ?_
    refine v_aload_n C 2 0 rfl 10 rfl (by decide +kernel) ?_
    refine v_ifnonnull C 22 (by decide +kernel) ?_
    refine v_aload_n C 0 1 rfl 23 rfl (by decide +kernel) ?_
    refine v_aload_n C 2 0 rfl 24 rfl (by decide +kernel) ?_
    obtain ⟨r16, σ15, hcr16, hf⟩ := cl2_e hf
    refine v_cV C 8 rfl (ns_kd_lt hk_a0 (by decide)) hk_a0 (by decide) [.ref (G.1 + b12)] [] (c_N_minutesOf G l σ10 a0 b12 hcr16) 222 1 tw_672 tw_669 tw_671 ts_34 tw_1 hd_N_minutesOf rfl ⟨(Nat.le_of_ble_eq_true rfl), (Nat.le_of_ble_eq_true rfl)⟩ ⟨(Nat.le_of_ble_eq_true rfl), (Nat.le_of_ble_eq_true rfl)⟩ (Nat.le_of_ble_eq_true rfl) rfl 27 rfl (by decide +kernel) [.int r16] rfl ?_
    obtain ⟨rfl, rfl⟩ := ret_e hf
    exact v_iret C hr (by decide +kernel)
theorem hd_N_minutes : (⟨"NinthStep", "minutes", "(I)I"⟩ : MethodName).cls = "NinthStep" ∧ (⟨"NinthStep", "minutes", "(I)I"⟩ : MethodName).cls ≠ "java/lang/invoke/MethodHandle" ∧ (⟨"NinthStep", "minutes", "(I)I"⟩ : MethodName).cls ≠ "java/lang/invoke/VarHandle" ∧ (parseMethodDescriptor (⟨"NinthStep", "minutes", "(I)I"⟩ : MethodName).desc).map (fun d => d.parameters.length) = some 1 := by decide +kernel
def g_Mule_arrival (σ : ns_St) (a0 : Nat) (x1 : Int32) (x2 : Int64) : Option (Int32 × ns_St) := grd (ns_kd a0 = 2) <| cl2 (g_N_bit σ x1) fun r6 σ5 => cl2 (g_Long_bitCount σ5 (x2 &&& (r6 - (1 : Int64)))) fun r8 σ7 => some (((x1 - (σ.1 a0 2)) + ((σ.1 a0 6) * r8)), σ7)
theorem c_Mule_arrival (G : ns_G) (l : Launch) (σ : ns_St) (a0 : Nat) (x1 : Int32) (x2 : Int64) {r : Int32} {σ' : ns_St} (hf : g_Mule_arrival σ a0 x1 x2 = some (r, σ')) : ns_ok G l ⟨"NinthStep$Mule", "arrival", "(IJ)I"⟩ prog_4_method_9_code 4 (some .int) 1 21 0 0 [.ref (G.1 + a0), .int x1, .long x2] ns_N σ (some (.int r)) ns_N σ' := by
  refine v_open (by decide) (Nat.le_of_ble_eq_true rfl) rfl ?_
  intro p e s m below meth c C hr _
  have C : ns_Cx G p s m _ meth c prog_4_method_9_code "NinthStep$Mule" 4 := C
  unfold g_Mule_arrival at hf
  obtain ⟨hk_a0, hf⟩ := grd_e hf
  refine v_iload_n C 1 1 rfl 1 rfl (by decide +kernel) ?_
  refine v_aload_n C 0 0 rfl 2 rfl (by decide +kernel) ?_
  refine v_getI C 2 2 rfl nin_2 (ns_kd_lt hk_a0 (by decide)) hk_a0 (by decide) (by decide) rfl 21 tw_88 rfl 5 rfl (by decide +kernel) ?_
  refine v_isub C 6 rfl (by decide +kernel) ?_
  refine v_aload_n C 0 0 rfl 7 rfl (by decide +kernel) ?_
  refine v_getI C 2 6 rfl nin_2 (ns_kd_lt hk_a0 (by decide)) hk_a0 (by decide) (by decide) rfl 34 tw_103 rfl 10 rfl (by decide +kernel) ?_
  refine v_lload_n C 2 2 rfl 11 rfl (by decide +kernel) ?_
  refine v_iload_n C 1 1 rfl 12 rfl (by decide +kernel) ?_
  obtain ⟨r6, σ5, hcr6, hf⟩ := cl2_e hf
  refine v_cSN C [.int x1] [.long x2, .int (σ.1 a0 6), .int (x1 - (σ.1 a0 2))] (c_N_bit G l σ x1 hcr6) 62 1 tw_468 tw_681 tw_467 tw_1 hd_N_bit rfl ⟨(Nat.le_of_ble_eq_true rfl), (Nat.le_of_ble_eq_true rfl)⟩ ⟨(Nat.le_of_ble_eq_true rfl), (Nat.le_of_ble_eq_true rfl)⟩ (Nat.le_of_ble_eq_true rfl) rfl 15 rfl (by decide +kernel) [.long r6, .long x2, .int (σ.1 a0 6), .int (x1 - (σ.1 a0 2))] rfl ?_
  refine v_lconst C 1 (1) (by decide) 16 rfl (by decide +kernel) ?_
  refine v_lsub C 17 rfl (by decide +kernel) ?_
  refine v_land C 18 rfl (by decide +kernel) ?_
  obtain ⟨r8, σ7, hcr8, hf⟩ := cl2_e hf
  refine v_cS C [.long (x2 &&& (r6 - (1 : Int64)))] [.int (σ.1 a0 6), .int (x1 - (σ.1 a0 2))] (c_Long_bitCount G l σ5 (x2 &&& (r6 - (1 : Int64))) hcr8) 66 1 tw_410 tw_682 tw_409 tw_12 hd_Long_bitCount rfl ⟨(Nat.le_of_ble_eq_true rfl), (Nat.le_of_ble_eq_true rfl)⟩ ⟨(Nat.le_of_ble_eq_true rfl), (Nat.le_of_ble_eq_true rfl)⟩ (Nat.le_of_ble_eq_true rfl) rfl 21 rfl (by decide +kernel) [.int r8, .int (σ.1 a0 6), .int (x1 - (σ.1 a0 2))] rfl ?_
  refine v_imul C 22 rfl (by decide +kernel) ?_
  refine v_iadd C 23 rfl (by decide +kernel) ?_
  obtain ⟨rfl, rfl⟩ := ret_e hf
  exact v_iret C hr (by decide +kernel)
theorem hd_Mule_arrival : (⟨"NinthStep$Mule", "arrival", "(IJ)I"⟩ : MethodName).cls = "NinthStep$Mule" ∧ (⟨"NinthStep$Mule", "arrival", "(IJ)I"⟩ : MethodName).cls ≠ "java/lang/invoke/MethodHandle" ∧ (⟨"NinthStep$Mule", "arrival", "(IJ)I"⟩ : MethodName).cls ≠ "java/lang/invoke/VarHandle" ∧ (parseMethodDescriptor (⟨"NinthStep$Mule", "arrival", "(IJ)I"⟩ : MethodName).desc).map (fun d => d.parameters.length) = some 2 := by decide +kernel
def g_N_after_52  : Nat → ns_St → Nat → Int32 → Nat → Int64 → Int32 → Int32 → Option (Int32 × ns_St)
  | 0, _, _, _, _, _, _, _ => none
  | f + 1, σ, a0, x2, a3, x4, x6, x7 => drf (σ.2.2 a0 0) fun b23 => grd (ns_kd b23 = 7) <| drf (σ.2.2 b23 0) fun b24 => grd (ns_kd b24 = 1) <| ite2 ((σ.1 b24 0) < x7) (some (x6, σ)) (cl2 (g_Mule_arrival σ a3 x7 x4) fun r27 σ26 => ite2 (r27 ≤ x2) (bnd (x7 + 1) fun z29 => (g_N_after_52 f) σ26 a0 x2 a3 x4 x7 z29) (some (x6, σ26)))
def g_N_after (σ : ns_St) (a0 : Nat) (x1 : Int32) (x2 : Int32) : Option (Int32 × ns_St) := grd (ns_kd a0 = 8) <| drf (σ.2.2 a0 0) fun b30 => grd (ns_kd b30 = 7) <| cl2 (g_World_muleAt σ b30 x1) fun r32 σ31 => onul r32 (cl2 (g_N_refuse σ31 a0 (-2 : Int32)) fun r35 σ34 => some (r35, σ34)) (fun b33 => grd (ns_kd b33 = 2) <| cl2 (g_N_isWithin σ31 x2 (0 : Int32) (400 : Int32)) fun r37 σ36 => ite2 (r37 = 0) (cl2 (g_N_refuse σ36 a0 (-2 : Int32)) fun r44 σ43 => some (r44, σ43)) (cl2 (g_N_stopsOf σ36 a0 b33) fun r40 σ39 => bnd (σ39.1 b33 2) fun z41 => bnd ((σ39.1 b33 2) + (1 : Int32)) fun z42 => g_N_after_52 ns_F σ39 a0 x2 b33 r40 z41 z42))
theorem t_N_after_52 (G : ns_G) (l : Launch) {p : Program} {e : Env} {s : State} {m : MethodId} {args : Array Value} {below : List Frame} {meth : Method} {c : Code} (C : ns_Cx G p s m args meth c prog_1_method_22_code "NinthStep" 8) (hr : meth.sig.returnType = (some .int)) {r : Int32} {σ' : ns_St}  : ∀ (f : Nat) (σ : ns_St) (a0 : Nat) (x2 : Int32) (a3 : Nat) (x4 : Int64) (x6 : Int32) (x7 : Int32) (hk_a0 : ns_kd a0 = 8) (hk_a3 : ns_kd a3 = 2), g_N_after_52 f σ a0 x2 a3 x4 x6 x7 = some (r, σ') → VV G p l e { frames := 4, cells := 0, slots := 0, locals := 93 } s m args below meth c 8 0 0 (MQ below (ns_Qc G (some (.int r)) ns_N σ') args s 0 0 (ns_A G)) ns_N σ 52 [(0, .ref (G.1 + a0)), (2, .int x2), (3, .ref (G.1 + a3)), (4, .long x4), (6, .int x6), (7, .int x7)] [] := by
  intro f
  induction f with
  | zero =>
    intro σ a0 x2 a3 x4 x6 x7 hk_a0 hk_a3 hf
    cases hf
  | succ f ih =>
    intro σ a0 x2 a3 x4 x6 x7 hk_a0 hk_a3 hf
    rw [g_N_after_52] at hf
    refine v_iload C 7 5 rfl 54 rfl (by decide +kernel) ?_
    refine v_aload_n C 0 0 rfl 55 rfl (by decide +kernel) ?_
    obtain ⟨b23, hb23, hf⟩ := drf_e hf
    obtain ⟨hk_b23, hf⟩ := grd_e hf
    refine v_getR C 8 0 hb23 rfl nin_8 (ns_kd_lt hk_a0 (by decide)) hk_a0 (by decide) (by decide) rfl 12 tw_287 rfl 58 rfl (by decide +kernel) ?_
    obtain ⟨b24, hb24, hf⟩ := drf_e hf
    obtain ⟨hk_b24, hf⟩ := grd_e hf
    refine v_getRN C 7 0 hb24 rfl nin_7 (ns_kd_lt hk_b23 (by decide)) hk_b23 (by decide) (by decide) rfl 138 tw_128 rfl 61 rfl (by decide +kernel) ?_
    refine v_getIN C 1 0 rfl nin_1 (ns_kd_lt hk_b24 (by decide)) hk_b24 (by decide) (by decide) rfl 147 tw_45 rfl 64 rfl (by decide +kernel) ?_
    refine v_icmp_gt C 92 67 rfl (by decide +kernel) (fun h25 => ?_) (fun h25 => ?_)
    · have hf := ite2_t hf h25
      refine v_iload C 6 4 rfl 94 rfl (by decide +kernel) ?_
      obtain ⟨rfl, rfl⟩ := ret_e hf
      exact v_iret C hr (by decide +kernel)
    · have hf := ite2_f hf h25
      refine v_aload_n C 3 2 rfl 68 rfl (by decide +kernel) ?_
      refine v_iload C 7 5 rfl 70 rfl (by decide +kernel) ?_
      refine v_lload C 4 3 rfl 72 rfl (by decide +kernel) ?_
      obtain ⟨r27, σ26, hcr27, hf⟩ := cl2_e hf
      refine v_cVN C 2 rfl (ns_kd_lt hk_a3 (by decide)) hk_a3 (by decide) [.int x7, .long x4] [] (c_Mule_arrival G l σ a3 x7 x4 hcr27) 226 2 tw_680 tw_677 tw_679 ts_35 tw_4 hd_Mule_arrival rfl ⟨(Nat.le_of_ble_eq_true rfl), (Nat.le_of_ble_eq_true rfl)⟩ ⟨(Nat.le_of_ble_eq_true rfl), (Nat.le_of_ble_eq_true rfl)⟩ (Nat.le_of_ble_eq_true rfl) rfl 75 rfl (by decide +kernel) [.int r27] rfl ?_
      refine v_iload_n C 2 1 rfl 76 rfl (by decide +kernel) ?_
      refine v_icmp_le C 82 79 rfl (by decide +kernel) (fun h28 => ?_) (fun h28 => ?_)
      · have hf := ite2_t hf h28
        refine v_iload C 7 5 rfl 84 rfl (by decide +kernel) ?_
        refine v_istore C 6 [(6, .int x7), (0, .ref (G.1 + a0)), (2, .int x2), (3, .ref (G.1 + a3)), (4, .long x4), (7, .int x7)] (by decide) rfl 86 rfl (by decide +kernel) ?_
        obtain ⟨z29, hz29, hf⟩ := bnd_e hf
        refine v_iinc C 7 (1) 5 z29 rfl (by rw [hz29]; rfl) [(7, .int z29), (6, .int x7), (0, .ref (G.1 + a0)), (2, .int x2), (3, .ref (G.1 + a3)), (4, .long x4)] (by decide) rfl 89 rfl (by decide +kernel) ?_
        refine v_goto C 52 (by decide +kernel) ?_
        refine v_sub [2, 3, 4, 5, 1, 0] rfl ?_
        exact ih σ26 a0 x2 a3 x4 x7 z29 hk_a0 hk_a3 hf
      · have hf := ite2_f hf h28
        refine v_goto C 92 (by decide +kernel) ?_
        refine v_iload C 6 4 rfl 94 rfl (by decide +kernel) ?_
        obtain ⟨rfl, rfl⟩ := ret_e hf
        exact v_iret C hr (by decide +kernel)
theorem c_N_after (G : ns_G) (l : Launch) (σ : ns_St) (a0 : Nat) (x1 : Int32) (x2 : Int32) {r : Int32} {σ' : ns_St} (hf : g_N_after σ a0 x1 x2 = some (r, σ')) : ns_ok G l ⟨"NinthStep", "after", "(II)I"⟩ prog_1_method_22_code 8 (some .int) 4 93 0 0 [.ref (G.1 + a0), .int x1, .int x2] ns_N σ (some (.int r)) ns_N σ' := by
  refine v_open (by decide) (Nat.le_of_ble_eq_true rfl) rfl ?_
  intro p e s m below meth c C hr _
  have C : ns_Cx G p s m _ meth c prog_1_method_22_code "NinthStep" 8 := C
  unfold g_N_after at hf
  obtain ⟨hk_a0, hf⟩ := grd_e hf
  refine v_aload_n C 0 0 rfl 1 rfl (by decide +kernel) ?_
  obtain ⟨b30, hb30, hf⟩ := drf_e hf
  obtain ⟨hk_b30, hf⟩ := grd_e hf
  refine v_getR C 8 0 hb30 rfl nin_8 (ns_kd_lt hk_a0 (by decide)) hk_a0 (by decide) (by decide) rfl 12 tw_287 rfl 4 rfl (by decide +kernel) ?_
  refine v_iload_n C 1 1 rfl 5 rfl (by decide +kernel) ?_
  obtain ⟨r32, σ31, hcr32, hf⟩ := cl2_e hf
  rcases r32 with _ | b33
  · have hf := onul_n hf
    refine v_cVN C 7 rfl (ns_kd_lt hk_b30 (by decide)) hk_b30 (by decide) [.int x1] [] (c_World_muleAt G l σ b30 x1 hcr32) 120 1 tw_390 tw_387 tw_389 ts_7 tw_2 hd_World_muleAt rfl ⟨(Nat.le_of_ble_eq_true rfl), (Nat.le_of_ble_eq_true rfl)⟩ ⟨(Nat.le_of_ble_eq_true rfl), (Nat.le_of_ble_eq_true rfl)⟩ (Nat.le_of_ble_eq_true rfl) rfl 8 rfl (by decide +kernel) [.null] rfl ?_
    refine v_astore_nN C 3 [(3, .null), (0, .ref (G.1 + a0)), (1, .int x1), (2, .int x2)] (by decide) rfl 9 rfl (by decide +kernel) ?_
    refine v_aload_nN C 3 0 rfl 10 rfl (by decide +kernel) ?_
    refine v_ifnullN C 24 (by decide +kernel) ?_
    refine v_aload_n C 0 1 rfl 25 rfl (by decide +kernel) ?_
    refine v_bipush C (-2) (-2) (by decide) 27 rfl (by decide +kernel) ?_
    obtain ⟨r35, σ34, hcr35, hf⟩ := cl2_e hf
    refine v_cV C 8 rfl (ns_kd_lt hk_a0 (by decide)) hk_a0 (by decide) [.int (-2 : Int32)] [] (c_N_refuse G l σ31 a0 (-2 : Int32) hcr35) 79 1 tw_338 tw_335 tw_337 ts_1 tw_1 hd_N_refuse rfl ⟨(Nat.le_of_ble_eq_true rfl), (Nat.le_of_ble_eq_true rfl)⟩ ⟨(Nat.le_of_ble_eq_true rfl), (Nat.le_of_ble_eq_true rfl)⟩ (Nat.le_of_ble_eq_true rfl) rfl 30 rfl (by decide +kernel) [.int r35] rfl ?_
    obtain ⟨rfl, rfl⟩ := ret_e hf
    exact v_iret C hr (by decide +kernel)
  · have hf := onul_s hf
    obtain ⟨hk_b33, hf⟩ := grd_e hf
    refine v_cVN C 7 rfl (ns_kd_lt hk_b30 (by decide)) hk_b30 (by decide) [.int x1] [] (c_World_muleAt G l σ b30 x1 hcr32) 120 1 tw_390 tw_387 tw_389 ts_7 tw_2 hd_World_muleAt rfl ⟨(Nat.le_of_ble_eq_true rfl), (Nat.le_of_ble_eq_true rfl)⟩ ⟨(Nat.le_of_ble_eq_true rfl), (Nat.le_of_ble_eq_true rfl)⟩ (Nat.le_of_ble_eq_true rfl) rfl 8 rfl (by decide +kernel) [.ref (G.1 + b33)] rfl ?_
    refine v_astore_n C 3 [(3, .ref (G.1 + b33)), (0, .ref (G.1 + a0)), (1, .int x1), (2, .int x2)] (by decide) rfl 9 rfl (by decide +kernel) ?_
    refine v_aload_n C 3 0 rfl 10 rfl (by decide +kernel) ?_
    refine v_ifnull C 24 13 rfl (by decide +kernel) ?_
    refine v_iload_n C 2 3 rfl 14 rfl (by decide +kernel) ?_
    refine v_iconst C (0) (0) (by decide) 15 rfl (by decide +kernel) ?_
    refine v_sipush C (400) (400) (by decide) 18 rfl (by decide +kernel) ?_
    obtain ⟨r37, σ36, hcr37, hf⟩ := cl2_e hf
    refine v_cS C [.int x2, .int (0 : Int32), .int (400 : Int32)] [] (c_N_isWithin G l σ31 x2 (0 : Int32) (400 : Int32) hcr37) 75 3 tw_334 tw_332 tw_333 tw_1 hd_N_isWithin rfl ⟨(Nat.le_of_ble_eq_true rfl), (Nat.le_of_ble_eq_true rfl)⟩ ⟨(Nat.le_of_ble_eq_true rfl), (Nat.le_of_ble_eq_true rfl)⟩ (Nat.le_of_ble_eq_true rfl) rfl 21 rfl (by decide +kernel) [.int r37] rfl ?_
    refine v_if_ne C 31 24 rfl (by decide +kernel) (fun h38 => ?_) (fun h38 => ?_)
    · have hf := ite2_f hf h38
      refine v_aload_n C 0 1 rfl 32 rfl (by decide +kernel) ?_
      refine v_aload_n C 3 0 rfl 33 rfl (by decide +kernel) ?_
      obtain ⟨r40, σ39, hcr40, hf⟩ := cl2_e hf
      refine v_cV C 8 rfl (ns_kd_lt hk_a0 (by decide)) hk_a0 (by decide) [.ref (G.1 + b33)] [] (c_N_stopsOf G l σ36 a0 b33 hcr40) 209 1 tw_643 tw_640 tw_642 ts_29 tw_1 hd_N_stopsOf rfl ⟨(Nat.le_of_ble_eq_true rfl), (Nat.le_of_ble_eq_true rfl)⟩ ⟨(Nat.le_of_ble_eq_true rfl), (Nat.le_of_ble_eq_true rfl)⟩ (Nat.le_of_ble_eq_true rfl) rfl 36 rfl (by decide +kernel) [.long r40] rfl ?_
      refine v_lstore C 4 [(4, .long r40), (3, .ref (G.1 + b33)), (0, .ref (G.1 + a0)), (1, .int x1), (2, .int x2)] (by decide) rfl 38 rfl (by decide +kernel) ?_
      refine v_aload_n C 3 1 rfl 39 rfl (by decide +kernel) ?_
      refine v_getIN C 2 2 rfl nin_2 (ns_kd_lt hk_b33 (by decide)) hk_b33 (by decide) (by decide) rfl 179 tw_93 rfl 42 rfl (by decide +kernel) ?_
      obtain ⟨z41, hz41, hf⟩ := bnd_e hf
      refine v_nmI hz41 ?_
      refine v_istore C 6 [(6, .int z41), (4, .long r40), (3, .ref (G.1 + b33)), (0, .ref (G.1 + a0)), (1, .int x1), (2, .int x2)] (by decide) rfl 44 rfl (by decide +kernel) ?_
      refine v_aload_n C 3 2 rfl 45 rfl (by decide +kernel) ?_
      refine v_getIN C 2 2 rfl nin_2 (ns_kd_lt hk_b33 (by decide)) hk_b33 (by decide) (by decide) rfl 179 tw_93 rfl 48 rfl (by decide +kernel) ?_
      refine v_iconst C (1) (1) (by decide) 49 rfl (by decide +kernel) ?_
      refine v_iadd C 50 rfl (by decide +kernel) ?_
      obtain ⟨z42, hz42, hf⟩ := bnd_e hf
      refine v_nmI hz42 ?_
      refine v_istore C 7 [(7, .int z42), (6, .int z41), (4, .long r40), (3, .ref (G.1 + b33)), (0, .ref (G.1 + a0)), (1, .int x1), (2, .int x2)] (by decide) rfl 52 rfl (by decide +kernel) ?_
      refine v_sub [4, 6, 3, 2, 1, 0] rfl ?_
      exact t_N_after_52 G l C hr  ns_F σ39 a0 x2 b33 r40 z41 z42 hk_a0 hk_b33 hf
    · have hf := ite2_t hf h38
      refine v_aload_n C 0 1 rfl 25 rfl (by decide +kernel) ?_
      refine v_bipush C (-2) (-2) (by decide) 27 rfl (by decide +kernel) ?_
      obtain ⟨r44, σ43, hcr44, hf⟩ := cl2_e hf
      refine v_cV C 8 rfl (ns_kd_lt hk_a0 (by decide)) hk_a0 (by decide) [.int (-2 : Int32)] [] (c_N_refuse G l σ36 a0 (-2 : Int32) hcr44) 79 1 tw_338 tw_335 tw_337 ts_1 tw_1 hd_N_refuse rfl ⟨(Nat.le_of_ble_eq_true rfl), (Nat.le_of_ble_eq_true rfl)⟩ ⟨(Nat.le_of_ble_eq_true rfl), (Nat.le_of_ble_eq_true rfl)⟩ (Nat.le_of_ble_eq_true rfl) rfl 30 rfl (by decide +kernel) [.int r44] rfl ?_
      obtain ⟨rfl, rfl⟩ := ret_e hf
      exact v_iret C hr (by decide +kernel)
theorem hd_N_after : (⟨"NinthStep", "after", "(II)I"⟩ : MethodName).cls = "NinthStep" ∧ (⟨"NinthStep", "after", "(II)I"⟩ : MethodName).cls ≠ "java/lang/invoke/MethodHandle" ∧ (⟨"NinthStep", "after", "(II)I"⟩ : MethodName).cls ≠ "java/lang/invoke/VarHandle" ∧ (parseMethodDescriptor (⟨"NinthStep", "after", "(II)I"⟩ : MethodName).desc).map (fun d => d.parameters.length) = some 2 := by decide +kernel
def g_N_viewsMissed (σ : ns_St) (a0 : Nat) (x1 : Int32) (x2 : Int64) : Option (Int64 × ns_St) := grd (ns_kd a0 = 8) <| drf (σ.2.2 a0 0) fun b5 => grd (ns_kd b5 = 7) <| drf (σ.2.2 b5 0) fun b6 => grd (ns_kd b6 = 1) <| cl2 (g_N_above σ x1) fun r8 σ7 => some ((((σ.2.1 b6 4) &&& r8) &&& (x2 ^^^ (-1 : Int64))), σ7)
theorem c_N_viewsMissed (G : ns_G) (l : Launch) (σ : ns_St) (a0 : Nat) (x1 : Int32) (x2 : Int64) {r : Int64} {σ' : ns_St} (hf : g_N_viewsMissed σ a0 x1 x2 = some (r, σ')) : ns_ok G l ⟨"NinthStep", "viewsMissed", "(IJ)J"⟩ prog_1_method_56_code 4 (some .long) 1 20 0 0 [.ref (G.1 + a0), .int x1, .long x2] ns_N σ (some (.long r)) ns_N σ' := by
  refine v_open (by decide) (Nat.le_of_ble_eq_true rfl) rfl ?_
  intro p e s m below meth c C hr _
  have C : ns_Cx G p s m _ meth c prog_1_method_56_code "NinthStep" 4 := C
  unfold g_N_viewsMissed at hf
  obtain ⟨hk_a0, hf⟩ := grd_e hf
  refine v_aload_n C 0 0 rfl 1 rfl (by decide +kernel) ?_
  obtain ⟨b5, hb5, hf⟩ := drf_e hf
  obtain ⟨hk_b5, hf⟩ := grd_e hf
  refine v_getR C 8 0 hb5 rfl nin_8 (ns_kd_lt hk_a0 (by decide)) hk_a0 (by decide) (by decide) rfl 12 tw_287 rfl 4 rfl (by decide +kernel) ?_
  obtain ⟨b6, hb6, hf⟩ := drf_e hf
  obtain ⟨hk_b6, hf⟩ := grd_e hf
  refine v_getRN C 7 0 hb6 rfl nin_7 (ns_kd_lt hk_b5 (by decide)) hk_b5 (by decide) (by decide) rfl 138 tw_128 rfl 7 rfl (by decide +kernel) ?_
  refine v_getJN C 1 4 rfl nin_1 (ns_kd_lt hk_b6 (by decide)) hk_b6 (by decide) (by decide) rfl 364 tw_63 rfl 10 rfl (by decide +kernel) ?_
  refine v_iload_n C 1 1 rfl 11 rfl (by decide +kernel) ?_
  obtain ⟨r8, σ7, hcr8, hf⟩ := cl2_e hf
  refine v_cS C [.int x1] [.long (σ.2.1 b6 4)] (c_N_above G l σ x1 hcr8) 346 1 tw_406 tw_404 tw_405 tw_1 hd_N_above rfl ⟨(Nat.le_of_ble_eq_true rfl), (Nat.le_of_ble_eq_true rfl)⟩ ⟨(Nat.le_of_ble_eq_true rfl), (Nat.le_of_ble_eq_true rfl)⟩ (Nat.le_of_ble_eq_true rfl) rfl 14 rfl (by decide +kernel) [.long r8, .long (σ.2.1 b6 4)] rfl ?_
  refine v_land C 15 rfl (by decide +kernel) ?_
  refine v_lload_n C 2 2 rfl 16 rfl (by decide +kernel) ?_
  refine v_ldc2 C 367 (-1) tw_695 19 rfl (by decide +kernel) ?_
  refine v_lxor C 20 rfl (by decide +kernel) ?_
  refine v_land C 21 rfl (by decide +kernel) ?_
  obtain ⟨rfl, rfl⟩ := ret_e hf
  exact v_lret C hr (by decide +kernel)
theorem hd_N_viewsMissed : (⟨"NinthStep", "viewsMissed", "(IJ)J"⟩ : MethodName).cls = "NinthStep" ∧ (⟨"NinthStep", "viewsMissed", "(IJ)J"⟩ : MethodName).cls ≠ "java/lang/invoke/MethodHandle" ∧ (⟨"NinthStep", "viewsMissed", "(IJ)J"⟩ : MethodName).cls ≠ "java/lang/invoke/VarHandle" ∧ (parseMethodDescriptor (⟨"NinthStep", "viewsMissed", "(IJ)J"⟩ : MethodName).desc).map (fun d => d.parameters.length) = some 2 := by decide +kernel
def g_N_isGood (σ : ns_St) (a0 : Nat) (x1 : Int32) (x2 : Int64) : Option (Int32 × ns_St) := grd (ns_kd a0 = 8) <| drf (σ.2.2 a0 0) fun b7 => grd (ns_kd b7 = 7) <| drf (σ.2.2 b7 0) fun b8 => grd (ns_kd b8 = 1) <| ite2 ((lg_cmp (x2 &&& (σ.2.1 b8 3)) (0 : Int64)) = 0) (cl2 (g_N_viewsMissed σ a0 x1 x2) fun r11 σ10 => ite2 ((lg_cmp r11 (0 : Int64)) = 0) (some ((1 : Int32), σ10)) (some ((0 : Int32), σ10))) (some ((0 : Int32), σ))
theorem c_N_isGood (G : ns_G) (l : Launch) (σ : ns_St) (a0 : Nat) (x1 : Int32) (x2 : Int64) {r : Int32} {σ' : ns_St} (hf : g_N_isGood σ a0 x1 x2 = some (r, σ')) : ns_ok G l ⟨"NinthStep", "isGood", "(IJ)Z"⟩ prog_1_method_57_code 4 (some .boolean) 2 43 0 0 [.ref (G.1 + a0), .int x1, .long x2] ns_N σ (some (.int r)) ns_N σ' := by
  refine v_open (by decide) (Nat.le_of_ble_eq_true rfl) rfl ?_
  intro p e s m below meth c C hr _
  have C : ns_Cx G p s m _ meth c prog_1_method_57_code "NinthStep" 4 := C
  unfold g_N_isGood at hf
  obtain ⟨hk_a0, hf⟩ := grd_e hf
  refine v_lload_n C 2 2 rfl 1 rfl (by decide +kernel) ?_
  refine v_aload_n C 0 0 rfl 2 rfl (by decide +kernel) ?_
  obtain ⟨b7, hb7, hf⟩ := drf_e hf
  obtain ⟨hk_b7, hf⟩ := grd_e hf
  refine v_getR C 8 0 hb7 rfl nin_8 (ns_kd_lt hk_a0 (by decide)) hk_a0 (by decide) (by decide) rfl 12 tw_287 rfl 5 rfl (by decide +kernel) ?_
  obtain ⟨b8, hb8, hf⟩ := drf_e hf
  obtain ⟨hk_b8, hf⟩ := grd_e hf
  refine v_getRN C 7 0 hb8 rfl nin_7 (ns_kd_lt hk_b7 (by decide)) hk_b7 (by decide) (by decide) rfl 138 tw_128 rfl 8 rfl (by decide +kernel) ?_
  refine v_getJN C 1 3 rfl nin_1 (ns_kd_lt hk_b8 (by decide)) hk_b8 (by decide) (by decide) rfl 234 tw_60 rfl 11 rfl (by decide +kernel) ?_
  refine v_land C 12 rfl (by decide +kernel) ?_
  refine v_lconst C 0 (0) (by decide) 13 rfl (by decide +kernel) ?_
  refine v_lcmp C 14 rfl (by decide +kernel) ?_
  refine v_if_ne C 32 17 rfl (by decide +kernel) (fun h9 => ?_) (fun h9 => ?_)
  · have hf := ite2_f hf h9
    refine v_iconst C (0) (0) (by decide) 33 rfl (by decide +kernel) ?_
    obtain ⟨rfl, rfl⟩ := ret_e hf
    exact v_zret C hr rfl (by decide +kernel)
  · have hf := ite2_t hf h9
    refine v_aload_n C 0 0 rfl 18 rfl (by decide +kernel) ?_
    refine v_iload_n C 1 1 rfl 19 rfl (by decide +kernel) ?_
    refine v_lload_n C 2 2 rfl 20 rfl (by decide +kernel) ?_
    obtain ⟨r11, σ10, hcr11, hf⟩ := cl2_e hf
    refine v_cV C 8 rfl (ns_kd_lt hk_a0 (by decide)) hk_a0 (by decide) [.int x1, .long x2] [] (c_N_viewsMissed G l σ a0 x1 x2 hcr11) 241 2 tw_694 tw_691 tw_693 ts_37 tw_1 hd_N_viewsMissed rfl ⟨(Nat.le_of_ble_eq_true rfl), (Nat.le_of_ble_eq_true rfl)⟩ ⟨(Nat.le_of_ble_eq_true rfl), (Nat.le_of_ble_eq_true rfl)⟩ (Nat.le_of_ble_eq_true rfl) rfl 23 rfl (by decide +kernel) [.long r11] rfl ?_
    refine v_lconst C 0 (0) (by decide) 24 rfl (by decide +kernel) ?_
    refine v_lcmp C 25 rfl (by decide +kernel) ?_
    refine v_if_ne C 32 28 rfl (by decide +kernel) (fun h12 => ?_) (fun h12 => ?_)
    · have hf := ite2_f hf h12
      refine v_iconst C (0) (0) (by decide) 33 rfl (by decide +kernel) ?_
      obtain ⟨rfl, rfl⟩ := ret_e hf
      exact v_zret C hr rfl (by decide +kernel)
    · have hf := ite2_t hf h12
      refine v_iconst C (1) (1) (by decide) 29 rfl (by decide +kernel) ?_
      refine v_goto C 33 (by decide +kernel) ?_
      obtain ⟨rfl, rfl⟩ := ret_e hf
      exact v_zret C hr rfl (by decide +kernel)
theorem hd_N_isGood : (⟨"NinthStep", "isGood", "(IJ)Z"⟩ : MethodName).cls = "NinthStep" ∧ (⟨"NinthStep", "isGood", "(IJ)Z"⟩ : MethodName).cls ≠ "java/lang/invoke/MethodHandle" ∧ (⟨"NinthStep", "isGood", "(IJ)Z"⟩ : MethodName).cls ≠ "java/lang/invoke/VarHandle" ∧ (parseMethodDescriptor (⟨"NinthStep", "isGood", "(IJ)Z"⟩ : MethodName).desc).map (fun d => d.parameters.length) = some 2 := by decide +kernel
def g_N_good (σ : ns_St) (a0 : Nat) (x1 : Int32) : Option (Int32 × ns_St) := grd (ns_kd a0 = 8) <| drf (σ.2.2 a0 0) fun b12 => grd (ns_kd b12 = 7) <| cl2 (g_World_muleAt σ b12 x1) fun r14 σ13 => onul r14 (cl2 (g_N_refuse σ13 a0 (-2 : Int32)) fun r17 σ16 => some (r17, σ16)) (fun b15 => grd (ns_kd b15 = 2) <| cl2 (g_N_stopsOf σ13 a0 b15) fun r19 σ18 => cl2 (g_N_isGood σ18 a0 (σ13.1 b15 2) r19) fun r21 σ20 => ite2 (r21 = 0) (some ((0 : Int32), σ20)) (some ((1 : Int32), σ20)))
theorem c_N_good (G : ns_G) (l : Launch) (σ : ns_St) (a0 : Nat) (x1 : Int32) {r : Int32} {σ' : ns_St} (hf : g_N_good σ a0 x1 = some (r, σ')) : ns_ok G l ⟨"NinthStep", "good", "(I)I"⟩ prog_1_method_23_code 3 (some .int) 4 93 0 0 [.ref (G.1 + a0), .int x1] ns_N σ (some (.int r)) ns_N σ' := by
  refine v_open (by decide) (Nat.le_of_ble_eq_true rfl) rfl ?_
  intro p e s m below meth c C hr _
  have C : ns_Cx G p s m _ meth c prog_1_method_23_code "NinthStep" 3 := C
  unfold g_N_good at hf
  obtain ⟨hk_a0, hf⟩ := grd_e hf
  refine v_aload_n C 0 0 rfl 1 rfl (by decide +kernel) ?_
  obtain ⟨b12, hb12, hf⟩ := drf_e hf
  obtain ⟨hk_b12, hf⟩ := grd_e hf
  refine v_getR C 8 0 hb12 rfl nin_8 (ns_kd_lt hk_a0 (by decide)) hk_a0 (by decide) (by decide) rfl 12 tw_287 rfl 4 rfl (by decide +kernel) ?_
  refine v_iload_n C 1 1 rfl 5 rfl (by decide +kernel) ?_
  obtain ⟨r14, σ13, hcr14, hf⟩ := cl2_e hf
  rcases r14 with _ | b15
  · have hf := onul_n hf
    refine v_cVN C 7 rfl (ns_kd_lt hk_b12 (by decide)) hk_b12 (by decide) [.int x1] [] (c_World_muleAt G l σ b12 x1 hcr14) 120 1 tw_390 tw_387 tw_389 ts_7 tw_2 hd_World_muleAt rfl ⟨(Nat.le_of_ble_eq_true rfl), (Nat.le_of_ble_eq_true rfl)⟩ ⟨(Nat.le_of_ble_eq_true rfl), (Nat.le_of_ble_eq_true rfl)⟩ (Nat.le_of_ble_eq_true rfl) rfl 8 rfl (by decide +kernel) [.null] rfl ?_
    refine v_astore_nN C 2 [(2, .null), (0, .ref (G.1 + a0)), (1, .int x1)] (by decide) rfl 9 rfl (by decide +kernel) ?_
    refine v_aload_nN C 2 0 rfl 10 rfl (by decide +kernel) ?_
    refine v_ifnonnullN C 20 13 rfl (by decide +kernel) ?_
    refine v_aload_n C 0 1 rfl 14 rfl (by decide +kernel) ?_
    refine v_bipush C (-2) (-2) (by decide) 16 rfl (by decide +kernel) ?_
    obtain ⟨r17, σ16, hcr17, hf⟩ := cl2_e hf
    refine v_cV C 8 rfl (ns_kd_lt hk_a0 (by decide)) hk_a0 (by decide) [.int (-2 : Int32)] [] (c_N_refuse G l σ13 a0 (-2 : Int32) hcr17) 79 1 tw_338 tw_335 tw_337 ts_1 tw_1 hd_N_refuse rfl ⟨(Nat.le_of_ble_eq_true rfl), (Nat.le_of_ble_eq_true rfl)⟩ ⟨(Nat.le_of_ble_eq_true rfl), (Nat.le_of_ble_eq_true rfl)⟩ (Nat.le_of_ble_eq_true rfl) rfl 19 rfl (by decide +kernel) [.int r17] rfl ?_
    obtain ⟨rfl, rfl⟩ := ret_e hf
    exact v_iret C hr (by decide +kernel)
  · have hf := onul_s hf
    obtain ⟨hk_b15, hf⟩ := grd_e hf
    refine v_cVN C 7 rfl (ns_kd_lt hk_b12 (by decide)) hk_b12 (by decide) [.int x1] [] (c_World_muleAt G l σ b12 x1 hcr14) 120 1 tw_390 tw_387 tw_389 ts_7 tw_2 hd_World_muleAt rfl ⟨(Nat.le_of_ble_eq_true rfl), (Nat.le_of_ble_eq_true rfl)⟩ ⟨(Nat.le_of_ble_eq_true rfl), (Nat.le_of_ble_eq_true rfl)⟩ (Nat.le_of_ble_eq_true rfl) rfl 8 rfl (by decide +kernel) [.ref (G.1 + b15)] rfl ?_
    refine v_astore_n C 2 [(2, .ref (G.1 + b15)), (0, .ref (G.1 + a0)), (1, .int x1)] (by decide) rfl 9 rfl (by decide +kernel) ?_
    refine v_aload_n C 2 0 rfl 10 rfl (by decide +kernel) ?_
    refine v_ifnonnull C 20 (by decide +kernel) ?_
    refine v_aload_n C 0 1 rfl 21 rfl (by decide +kernel) ?_
    refine v_aload_n C 2 0 rfl 22 rfl (by decide +kernel) ?_
    refine v_getIN C 2 2 rfl nin_2 (ns_kd_lt hk_b15 (by decide)) hk_b15 (by decide) (by decide) rfl 179 tw_93 rfl 25 rfl (by decide +kernel) ?_
    refine v_aload_n C 0 1 rfl 26 rfl (by decide +kernel) ?_
    refine v_aload_n C 2 0 rfl 27 rfl (by decide +kernel) ?_
    obtain ⟨r19, σ18, hcr19, hf⟩ := cl2_e hf
    refine v_cV C 8 rfl (ns_kd_lt hk_a0 (by decide)) hk_a0 (by decide) [.ref (G.1 + b15)] [.int (σ13.1 b15 2), .ref (G.1 + a0)] (c_N_stopsOf G l σ13 a0 b15 hcr19) 209 1 tw_643 tw_640 tw_642 ts_29 tw_1 hd_N_stopsOf rfl ⟨(Nat.le_of_ble_eq_true rfl), (Nat.le_of_ble_eq_true rfl)⟩ ⟨(Nat.le_of_ble_eq_true rfl), (Nat.le_of_ble_eq_true rfl)⟩ (Nat.le_of_ble_eq_true rfl) rfl 30 rfl (by decide +kernel) [.long r19, .int (σ13.1 b15 2), .ref (G.1 + a0)] rfl ?_
    obtain ⟨r21, σ20, hcr21, hf⟩ := cl2_e hf
    refine v_cV C 8 rfl (ns_kd_lt hk_a0 (by decide)) hk_a0 (by decide) [.int (σ13.1 b15 2), .long r19] [] (c_N_isGood G l σ18 a0 (σ13.1 b15 2) r19 hcr21) 230 2 tw_690 tw_687 tw_689 ts_36 tw_1 hd_N_isGood rfl ⟨(Nat.le_of_ble_eq_true rfl), (Nat.le_of_ble_eq_true rfl)⟩ ⟨(Nat.le_of_ble_eq_true rfl), (Nat.le_of_ble_eq_true rfl)⟩ (Nat.le_of_ble_eq_true rfl) rfl 33 rfl (by decide +kernel) [.int r21] rfl ?_
    refine v_if_eq C 40 36 rfl (by decide +kernel) (fun h22 => ?_) (fun h22 => ?_)
    · have hf := ite2_t hf h22
      refine v_iconst C (0) (0) (by decide) 41 rfl (by decide +kernel) ?_
      obtain ⟨rfl, rfl⟩ := ret_e hf
      exact v_iret C hr (by decide +kernel)
    · have hf := ite2_f hf h22
      refine v_iconst C (1) (1) (by decide) 37 rfl (by decide +kernel) ?_
      refine v_goto C 41 (by decide +kernel) ?_
      obtain ⟨rfl, rfl⟩ := ret_e hf
      exact v_iret C hr (by decide +kernel)
theorem hd_N_good : (⟨"NinthStep", "good", "(I)I"⟩ : MethodName).cls = "NinthStep" ∧ (⟨"NinthStep", "good", "(I)I"⟩ : MethodName).cls ≠ "java/lang/invoke/MethodHandle" ∧ (⟨"NinthStep", "good", "(I)I"⟩ : MethodName).cls ≠ "java/lang/invoke/VarHandle" ∧ (parseMethodDescriptor (⟨"NinthStep", "good", "(I)I"⟩ : MethodName).desc).map (fun d => d.parameters.length) = some 1 := by decide +kernel
def g_N_falls (σ : ns_St) (a0 : Nat) (x1 : Int32) : Option (Int32 × ns_St) := grd (ns_kd a0 = 8) <| drf (σ.2.2 a0 0) fun b13 => grd (ns_kd b13 = 7) <| cl2 (g_World_muleAt σ b13 x1) fun r15 σ14 => onul r15 (cl2 (g_N_refuse σ14 a0 (-2 : Int32)) fun r18 σ17 => some (r18, σ17)) (fun b16 => grd (ns_kd b16 = 2) <| cl2 (g_N_stopsOf σ14 a0 b16) fun r20 σ19 => drf (σ19.2.2 a0 0) fun b21 => grd (ns_kd b21 = 7) <| drf (σ19.2.2 b21 0) fun b22 => grd (ns_kd b22 = 1) <| cl2 (g_N_firstOf σ19 (r20 &&& (σ19.2.1 b22 3))) fun r24 σ23 => some (r24, σ23))
theorem c_N_falls (G : ns_G) (l : Launch) (σ : ns_St) (a0 : Nat) (x1 : Int32) {r : Int32} {σ' : ns_St} (hf : g_N_falls σ a0 x1 = some (r, σ')) : ns_ok G l ⟨"NinthStep", "falls", "(I)I"⟩ prog_1_method_24_code 3 (some .int) 4 93 0 0 [.ref (G.1 + a0), .int x1] ns_N σ (some (.int r)) ns_N σ' := by
  refine v_open (by decide) (Nat.le_of_ble_eq_true rfl) rfl ?_
  intro p e s m below meth c C hr _
  have C : ns_Cx G p s m _ meth c prog_1_method_24_code "NinthStep" 3 := C
  unfold g_N_falls at hf
  obtain ⟨hk_a0, hf⟩ := grd_e hf
  refine v_aload_n C 0 0 rfl 1 rfl (by decide +kernel) ?_
  obtain ⟨b13, hb13, hf⟩ := drf_e hf
  obtain ⟨hk_b13, hf⟩ := grd_e hf
  refine v_getR C 8 0 hb13 rfl nin_8 (ns_kd_lt hk_a0 (by decide)) hk_a0 (by decide) (by decide) rfl 12 tw_287 rfl 4 rfl (by decide +kernel) ?_
  refine v_iload_n C 1 1 rfl 5 rfl (by decide +kernel) ?_
  obtain ⟨r15, σ14, hcr15, hf⟩ := cl2_e hf
  rcases r15 with _ | b16
  · have hf := onul_n hf
    refine v_cVN C 7 rfl (ns_kd_lt hk_b13 (by decide)) hk_b13 (by decide) [.int x1] [] (c_World_muleAt G l σ b13 x1 hcr15) 120 1 tw_390 tw_387 tw_389 ts_7 tw_2 hd_World_muleAt rfl ⟨(Nat.le_of_ble_eq_true rfl), (Nat.le_of_ble_eq_true rfl)⟩ ⟨(Nat.le_of_ble_eq_true rfl), (Nat.le_of_ble_eq_true rfl)⟩ (Nat.le_of_ble_eq_true rfl) rfl 8 rfl (by decide +kernel) [.null] rfl ?_
    refine v_astore_nN C 2 [(2, .null), (0, .ref (G.1 + a0)), (1, .int x1)] (by decide) rfl 9 rfl (by decide +kernel) ?_
    refine v_aload_nN C 2 0 rfl 10 rfl (by decide +kernel) ?_
    refine v_ifnonnullN C 22 13 rfl (by decide +kernel) ?_
    refine v_aload_n C 0 1 rfl 14 rfl (by decide +kernel) ?_
    refine v_bipush C (-2) (-2) (by decide) 16 rfl (by decide +kernel) ?_
    obtain ⟨r18, σ17, hcr18, hf⟩ := cl2_e hf
    refine v_cV C 8 rfl (ns_kd_lt hk_a0 (by decide)) hk_a0 (by decide) [.int (-2 : Int32)] [] (c_N_refuse G l σ14 a0 (-2 : Int32) hcr18) 79 1 tw_338 tw_335 tw_337 ts_1 tw_1 hd_N_refuse rfl ⟨(Nat.le_of_ble_eq_true rfl), (Nat.le_of_ble_eq_true rfl)⟩ ⟨(Nat.le_of_ble_eq_true rfl), (Nat.le_of_ble_eq_true rfl)⟩ (Nat.le_of_ble_eq_true rfl) rfl 19 rfl (by decide +kernel) [.int r18] rfl ?_
    refine v_goto C 41 (by decide +kernel) ?_
    obtain ⟨rfl, rfl⟩ := ret_e hf
    exact v_iret C hr (by decide +kernel)
  · have hf := onul_s hf
    obtain ⟨hk_b16, hf⟩ := grd_e hf
    refine v_cVN C 7 rfl (ns_kd_lt hk_b13 (by decide)) hk_b13 (by decide) [.int x1] [] (c_World_muleAt G l σ b13 x1 hcr15) 120 1 tw_390 tw_387 tw_389 ts_7 tw_2 hd_World_muleAt rfl ⟨(Nat.le_of_ble_eq_true rfl), (Nat.le_of_ble_eq_true rfl)⟩ ⟨(Nat.le_of_ble_eq_true rfl), (Nat.le_of_ble_eq_true rfl)⟩ (Nat.le_of_ble_eq_true rfl) rfl 8 rfl (by decide +kernel) [.ref (G.1 + b16)] rfl ?_
    refine v_astore_n C 2 [(2, .ref (G.1 + b16)), (0, .ref (G.1 + a0)), (1, .int x1)] (by decide) rfl 9 rfl (by decide +kernel) ?_
    refine v_aload_n C 2 0 rfl 10 rfl (by decide +kernel) ?_
    refine v_ifnonnull C 22 (by decide +kernel) ?_
    refine v_aload_n C 0 1 rfl 23 rfl (by decide +kernel) ?_
    refine v_aload_n C 2 0 rfl 24 rfl (by decide +kernel) ?_
    obtain ⟨r20, σ19, hcr20, hf⟩ := cl2_e hf
    refine v_cV C 8 rfl (ns_kd_lt hk_a0 (by decide)) hk_a0 (by decide) [.ref (G.1 + b16)] [] (c_N_stopsOf G l σ14 a0 b16 hcr20) 209 1 tw_643 tw_640 tw_642 ts_29 tw_1 hd_N_stopsOf rfl ⟨(Nat.le_of_ble_eq_true rfl), (Nat.le_of_ble_eq_true rfl)⟩ ⟨(Nat.le_of_ble_eq_true rfl), (Nat.le_of_ble_eq_true rfl)⟩ (Nat.le_of_ble_eq_true rfl) rfl 27 rfl (by decide +kernel) [.long r20] rfl ?_
    refine v_aload_n C 0 1 rfl 28 rfl (by decide +kernel) ?_
    obtain ⟨b21, hb21, hf⟩ := drf_e hf
    obtain ⟨hk_b21, hf⟩ := grd_e hf
    refine v_getR C 8 0 hb21 rfl nin_8 (ns_kd_lt hk_a0 (by decide)) hk_a0 (by decide) (by decide) rfl 12 tw_287 rfl 31 rfl (by decide +kernel) ?_
    obtain ⟨b22, hb22, hf⟩ := drf_e hf
    obtain ⟨hk_b22, hf⟩ := grd_e hf
    refine v_getRN C 7 0 hb22 rfl nin_7 (ns_kd_lt hk_b21 (by decide)) hk_b21 (by decide) (by decide) rfl 138 tw_128 rfl 34 rfl (by decide +kernel) ?_
    refine v_getJN C 1 3 rfl nin_1 (ns_kd_lt hk_b22 (by decide)) hk_b22 (by decide) (by decide) rfl 234 tw_60 rfl 37 rfl (by decide +kernel) ?_
    refine v_land C 38 rfl (by decide +kernel) ?_
    obtain ⟨r24, σ23, hcr24, hf⟩ := cl2_e hf
    refine v_cS C [.long (r20 &&& (σ19.2.1 b22 3))] [] (c_N_firstOf G l σ19 (r20 &&& (σ19.2.1 b22 3)) hcr24) 238 1 tw_416 tw_414 tw_415 tw_1 hd_N_firstOf rfl ⟨(Nat.le_of_ble_eq_true rfl), (Nat.le_of_ble_eq_true rfl)⟩ ⟨(Nat.le_of_ble_eq_true rfl), (Nat.le_of_ble_eq_true rfl)⟩ (Nat.le_of_ble_eq_true rfl) rfl 41 rfl (by decide +kernel) [.int r24] rfl ?_
    obtain ⟨rfl, rfl⟩ := ret_e hf
    exact v_iret C hr (by decide +kernel)
theorem hd_N_falls : (⟨"NinthStep", "falls", "(I)I"⟩ : MethodName).cls = "NinthStep" ∧ (⟨"NinthStep", "falls", "(I)I"⟩ : MethodName).cls ≠ "java/lang/invoke/MethodHandle" ∧ (⟨"NinthStep", "falls", "(I)I"⟩ : MethodName).cls ≠ "java/lang/invoke/VarHandle" ∧ (parseMethodDescriptor (⟨"NinthStep", "falls", "(I)I"⟩ : MethodName).desc).map (fun d => d.parameters.length) = some 1 := by decide +kernel
def g_N_missed (σ : ns_St) (a0 : Nat) (x1 : Int32) : Option (Int32 × ns_St) := grd (ns_kd a0 = 8) <| drf (σ.2.2 a0 0) fun b13 => grd (ns_kd b13 = 7) <| cl2 (g_World_muleAt σ b13 x1) fun r15 σ14 => onul r15 (cl2 (g_N_refuse σ14 a0 (-2 : Int32)) fun r18 σ17 => some (r18, σ17)) (fun b16 => grd (ns_kd b16 = 2) <| cl2 (g_N_stopsOf σ14 a0 b16) fun r20 σ19 => cl2 (g_N_viewsMissed σ19 a0 (σ14.1 b16 2) r20) fun r22 σ21 => cl2 (g_Long_bitCount σ21 r22) fun r24 σ23 => some (r24, σ23))
theorem c_N_missed (G : ns_G) (l : Launch) (σ : ns_St) (a0 : Nat) (x1 : Int32) {r : Int32} {σ' : ns_St} (hf : g_N_missed σ a0 x1 = some (r, σ')) : ns_ok G l ⟨"NinthStep", "missed", "(I)I"⟩ prog_1_method_25_code 3 (some .int) 4 93 0 0 [.ref (G.1 + a0), .int x1] ns_N σ (some (.int r)) ns_N σ' := by
  refine v_open (by decide) (Nat.le_of_ble_eq_true rfl) rfl ?_
  intro p e s m below meth c C hr _
  have C : ns_Cx G p s m _ meth c prog_1_method_25_code "NinthStep" 3 := C
  unfold g_N_missed at hf
  obtain ⟨hk_a0, hf⟩ := grd_e hf
  refine v_aload_n C 0 0 rfl 1 rfl (by decide +kernel) ?_
  obtain ⟨b13, hb13, hf⟩ := drf_e hf
  obtain ⟨hk_b13, hf⟩ := grd_e hf
  refine v_getR C 8 0 hb13 rfl nin_8 (ns_kd_lt hk_a0 (by decide)) hk_a0 (by decide) (by decide) rfl 12 tw_287 rfl 4 rfl (by decide +kernel) ?_
  refine v_iload_n C 1 1 rfl 5 rfl (by decide +kernel) ?_
  obtain ⟨r15, σ14, hcr15, hf⟩ := cl2_e hf
  rcases r15 with _ | b16
  · have hf := onul_n hf
    refine v_cVN C 7 rfl (ns_kd_lt hk_b13 (by decide)) hk_b13 (by decide) [.int x1] [] (c_World_muleAt G l σ b13 x1 hcr15) 120 1 tw_390 tw_387 tw_389 ts_7 tw_2 hd_World_muleAt rfl ⟨(Nat.le_of_ble_eq_true rfl), (Nat.le_of_ble_eq_true rfl)⟩ ⟨(Nat.le_of_ble_eq_true rfl), (Nat.le_of_ble_eq_true rfl)⟩ (Nat.le_of_ble_eq_true rfl) rfl 8 rfl (by decide +kernel) [.null] rfl ?_
    refine v_astore_nN C 2 [(2, .null), (0, .ref (G.1 + a0)), (1, .int x1)] (by decide) rfl 9 rfl (by decide +kernel) ?_
    refine v_aload_nN C 2 0 rfl 10 rfl (by decide +kernel) ?_
    refine v_ifnonnullN C 22 13 rfl (by decide +kernel) ?_
    refine v_aload_n C 0 1 rfl 14 rfl (by decide +kernel) ?_
    refine v_bipush C (-2) (-2) (by decide) 16 rfl (by decide +kernel) ?_
    obtain ⟨r18, σ17, hcr18, hf⟩ := cl2_e hf
    refine v_cV C 8 rfl (ns_kd_lt hk_a0 (by decide)) hk_a0 (by decide) [.int (-2 : Int32)] [] (c_N_refuse G l σ14 a0 (-2 : Int32) hcr18) 79 1 tw_338 tw_335 tw_337 ts_1 tw_1 hd_N_refuse rfl ⟨(Nat.le_of_ble_eq_true rfl), (Nat.le_of_ble_eq_true rfl)⟩ ⟨(Nat.le_of_ble_eq_true rfl), (Nat.le_of_ble_eq_true rfl)⟩ (Nat.le_of_ble_eq_true rfl) rfl 19 rfl (by decide +kernel) [.int r18] rfl ?_
    refine v_goto C 38 (by decide +kernel) ?_
    obtain ⟨rfl, rfl⟩ := ret_e hf
    exact v_iret C hr (by decide +kernel)
  · have hf := onul_s hf
    obtain ⟨hk_b16, hf⟩ := grd_e hf
    refine v_cVN C 7 rfl (ns_kd_lt hk_b13 (by decide)) hk_b13 (by decide) [.int x1] [] (c_World_muleAt G l σ b13 x1 hcr15) 120 1 tw_390 tw_387 tw_389 ts_7 tw_2 hd_World_muleAt rfl ⟨(Nat.le_of_ble_eq_true rfl), (Nat.le_of_ble_eq_true rfl)⟩ ⟨(Nat.le_of_ble_eq_true rfl), (Nat.le_of_ble_eq_true rfl)⟩ (Nat.le_of_ble_eq_true rfl) rfl 8 rfl (by decide +kernel) [.ref (G.1 + b16)] rfl ?_
    refine v_astore_n C 2 [(2, .ref (G.1 + b16)), (0, .ref (G.1 + a0)), (1, .int x1)] (by decide) rfl 9 rfl (by decide +kernel) ?_
    refine v_aload_n C 2 0 rfl 10 rfl (by decide +kernel) ?_
    refine v_ifnonnull C 22 (by decide +kernel) ?_
    refine v_aload_n C 0 1 rfl 23 rfl (by decide +kernel) ?_
    refine v_aload_n C 2 0 rfl 24 rfl (by decide +kernel) ?_
    refine v_getIN C 2 2 rfl nin_2 (ns_kd_lt hk_b16 (by decide)) hk_b16 (by decide) (by decide) rfl 179 tw_93 rfl 27 rfl (by decide +kernel) ?_
    refine v_aload_n C 0 1 rfl 28 rfl (by decide +kernel) ?_
    refine v_aload_n C 2 0 rfl 29 rfl (by decide +kernel) ?_
    obtain ⟨r20, σ19, hcr20, hf⟩ := cl2_e hf
    refine v_cV C 8 rfl (ns_kd_lt hk_a0 (by decide)) hk_a0 (by decide) [.ref (G.1 + b16)] [.int (σ14.1 b16 2), .ref (G.1 + a0)] (c_N_stopsOf G l σ14 a0 b16 hcr20) 209 1 tw_643 tw_640 tw_642 ts_29 tw_1 hd_N_stopsOf rfl ⟨(Nat.le_of_ble_eq_true rfl), (Nat.le_of_ble_eq_true rfl)⟩ ⟨(Nat.le_of_ble_eq_true rfl), (Nat.le_of_ble_eq_true rfl)⟩ (Nat.le_of_ble_eq_true rfl) rfl 32 rfl (by decide +kernel) [.long r20, .int (σ14.1 b16 2), .ref (G.1 + a0)] rfl ?_
    obtain ⟨r22, σ21, hcr22, hf⟩ := cl2_e hf
    refine v_cV C 8 rfl (ns_kd_lt hk_a0 (by decide)) hk_a0 (by decide) [.int (σ14.1 b16 2), .long r20] [] (c_N_viewsMissed G l σ19 a0 (σ14.1 b16 2) r20 hcr22) 241 2 tw_694 tw_691 tw_693 ts_37 tw_1 hd_N_viewsMissed rfl ⟨(Nat.le_of_ble_eq_true rfl), (Nat.le_of_ble_eq_true rfl)⟩ ⟨(Nat.le_of_ble_eq_true rfl), (Nat.le_of_ble_eq_true rfl)⟩ (Nat.le_of_ble_eq_true rfl) rfl 35 rfl (by decide +kernel) [.long r22] rfl ?_
    obtain ⟨r24, σ23, hcr24, hf⟩ := cl2_e hf
    refine v_cS C [.long r22] [] (c_Long_bitCount G l σ21 r22 hcr24) 213 1 tw_410 tw_408 tw_409 tw_12 hd_Long_bitCount rfl ⟨(Nat.le_of_ble_eq_true rfl), (Nat.le_of_ble_eq_true rfl)⟩ ⟨(Nat.le_of_ble_eq_true rfl), (Nat.le_of_ble_eq_true rfl)⟩ (Nat.le_of_ble_eq_true rfl) rfl 38 rfl (by decide +kernel) [.int r24] rfl ?_
    obtain ⟨rfl, rfl⟩ := ret_e hf
    exact v_iret C hr (by decide +kernel)
theorem hd_N_missed : (⟨"NinthStep", "missed", "(I)I"⟩ : MethodName).cls = "NinthStep" ∧ (⟨"NinthStep", "missed", "(I)I"⟩ : MethodName).cls ≠ "java/lang/invoke/MethodHandle" ∧ (⟨"NinthStep", "missed", "(I)I"⟩ : MethodName).cls ≠ "java/lang/invoke/VarHandle" ∧ (parseMethodDescriptor (⟨"NinthStep", "missed", "(I)I"⟩ : MethodName).desc).map (fun d => d.parameters.length) = some 1 := by decide +kernel
def g_Mule_cappedCount (σ : ns_St) (a0 : Nat) : Option (Int32 × ns_St) := grd (ns_kd a0 = 2) <| cl2 (g_Math_min σ (σ.1 a0 1) (63 : Int32)) fun r6 σ5 => cl2 (g_Math_min σ5 (σ.1 a0 3) r6) fun r8 σ7 => some (r8, σ7)
theorem c_Mule_cappedCount (G : ns_G) (l : Launch) (σ : ns_St) (a0 : Nat) {r : Int32} {σ' : ns_St} (hf : g_Mule_cappedCount σ a0 = some (r, σ')) : ns_ok G l ⟨"NinthStep$Mule", "cappedCount", "()I"⟩ prog_4_method_4_code 1 (some .int) 1 21 0 0 [.ref (G.1 + a0)] ns_N σ (some (.int r)) ns_N σ' := by
  refine v_open (by decide) (Nat.le_of_ble_eq_true rfl) rfl ?_
  intro p e s m below meth c C hr _
  have C : ns_Cx G p s m _ meth c prog_4_method_4_code "NinthStep$Mule" 1 := C
  unfold g_Mule_cappedCount at hf
  obtain ⟨hk_a0, hf⟩ := grd_e hf
  refine v_aload_n C 0 0 rfl 1 rfl (by decide +kernel) ?_
  refine v_getI C 2 3 rfl nin_2 (ns_kd_lt hk_a0 (by decide)) hk_a0 (by decide) (by decide) rfl 24 tw_94 rfl 4 rfl (by decide +kernel) ?_
  refine v_aload_n C 0 0 rfl 5 rfl (by decide +kernel) ?_
  refine v_getI C 2 1 rfl nin_2 (ns_kd_lt hk_a0 (by decide)) hk_a0 (by decide) (by decide) rfl 15 tw_84 rfl 8 rfl (by decide +kernel) ?_
  refine v_bipush C (63) (63) (by decide) 10 rfl (by decide +kernel) ?_
  obtain ⟨r6, σ5, hcr6, hf⟩ := cl2_e hf
  refine v_cS C [.int (σ.1 a0 1), .int (63 : Int32)] [.int (σ.1 a0 3)] (c_Math_min G l σ (σ.1 a0 1) (63 : Int32) hcr6) 40 2 tw_663 tw_661 tw_662 tw_18 hd_Math_min rfl ⟨(Nat.le_of_ble_eq_true rfl), (Nat.le_of_ble_eq_true rfl)⟩ ⟨(Nat.le_of_ble_eq_true rfl), (Nat.le_of_ble_eq_true rfl)⟩ (Nat.le_of_ble_eq_true rfl) rfl 13 rfl (by decide +kernel) [.int r6, .int (σ.1 a0 3)] rfl ?_
  obtain ⟨r8, σ7, hcr8, hf⟩ := cl2_e hf
  refine v_cS C [.int (σ.1 a0 3), .int r6] [] (c_Math_min G l σ5 (σ.1 a0 3) r6 hcr8) 40 2 tw_663 tw_661 tw_662 tw_18 hd_Math_min rfl ⟨(Nat.le_of_ble_eq_true rfl), (Nat.le_of_ble_eq_true rfl)⟩ ⟨(Nat.le_of_ble_eq_true rfl), (Nat.le_of_ble_eq_true rfl)⟩ (Nat.le_of_ble_eq_true rfl) rfl 16 rfl (by decide +kernel) [.int r8] rfl ?_
  obtain ⟨rfl, rfl⟩ := ret_e hf
  exact v_iret C hr (by decide +kernel)
theorem hd_Mule_cappedCount : (⟨"NinthStep$Mule", "cappedCount", "()I"⟩ : MethodName).cls = "NinthStep$Mule" ∧ (⟨"NinthStep$Mule", "cappedCount", "()I"⟩ : MethodName).cls ≠ "java/lang/invoke/MethodHandle" ∧ (⟨"NinthStep$Mule", "cappedCount", "()I"⟩ : MethodName).cls ≠ "java/lang/invoke/VarHandle" ∧ (parseMethodDescriptor (⟨"NinthStep$Mule", "cappedCount", "()I"⟩ : MethodName).desc).map (fun d => d.parameters.length) = some 0 := by decide +kernel
def g_N_tellNumbers_23  : Nat → ns_St → Nat → Nat → Nat → Int32 → Option (Unit × ns_St)
  | 0, _, _, _, _, _ => none
  | f + 1, σ, a1, a2, a3, x4 => ite2 ((σ.1 a1 0) < x4) (some ((), σ)) (cl2 (g_Mule_makeStep σ a2 a1 (0 : Int32)) fun r14 σ13 => grd (ns_in x4 (ns_ln a3)) <| bnd (ns_pI σ13 a3 (ns_ix x4) (σ13.1 a2 1)) fun σ16 => bnd (x4 + 1) fun z17 => (g_N_tellNumbers_23 f) σ16 a1 a2 a3 z17)
def g_N_tellNumbers (σ : ns_St) (a0 : Nat) (a1 : Nat) (a2 : Nat) (a3 : Nat) : Option (Unit × ns_St) := grd (ns_kd a0 = 2) <| grd (ns_kd a1 = 1) <| grd (ns_kd a2 = 2) <| grd (ns_kd a3 = 10) <| cl2 (g_Mule_takeFrom σ a2 a0) fun r19 σ18 => grd (ns_in (σ18.1 a0 2) (ns_ln a3)) <| bnd (ns_pI σ18 a3 (ns_ix (σ18.1 a0 2)) (σ18.1 a0 1)) fun σ21 => bnd ((σ21.1 a0 2) + (1 : Int32)) fun z22 => g_N_tellNumbers_23 ns_F σ21 a1 a2 a3 z22
theorem t_N_tellNumbers_23 (G : ns_G) (l : Launch) {p : Program} {e : Env} {s : State} {m : MethodId} {args : Array Value} {below : List Frame} {meth : Method} {c : Code} (C : ns_Cx G p s m args meth c prog_1_method_69_code "NinthStep" 5) (hr : meth.sig.returnType = none) {r : Unit} {σ' : ns_St}  : ∀ (f : Nat) (σ : ns_St) (a1 : Nat) (a2 : Nat) (a3 : Nat) (x4 : Int32) (hk_a1 : ns_kd a1 = 1) (hk_a2 : ns_kd a2 = 2) (hk_a3 : ns_kd a3 = 10), g_N_tellNumbers_23 f σ a1 a2 a3 x4 = some (r, σ') → VV G p l e { frames := 2, cells := 0, slots := 0, locals := 45 } s m args below meth c 5 0 0 (MQ below (ns_Qc G none ns_N σ') args s 0 0 (ns_A G)) ns_N σ 23 [(1, .ref (G.1 + a1)), (2, .ref (G.1 + a2)), (3, .ref (G.1 + a3)), (4, .int x4)] [] := by
  intro f
  induction f with
  | zero =>
    intro σ a1 a2 a3 x4 hk_a1 hk_a2 hk_a3 hf
    cases hf
  | succ f ih =>
    intro σ a1 a2 a3 x4 hk_a1 hk_a2 hk_a3 hf
    rw [g_N_tellNumbers_23] at hf
    refine v_iload C 4 3 rfl 25 rfl (by decide +kernel) ?_
    refine v_aload_n C 1 0 rfl 26 rfl (by decide +kernel) ?_
    refine v_getIN C 1 0 rfl nin_1 (ns_kd_lt hk_a1 (by decide)) hk_a1 (by decide) (by decide) rfl 147 tw_45 rfl 29 rfl (by decide +kernel) ?_
    refine v_icmp_gt C 53 32 rfl (by decide +kernel) (fun h12 => ?_) (fun h12 => ?_)
    · have hf := ite2_t hf h12
      obtain ⟨rfl, rfl⟩ := ret_e hf
      exact v_vret C hr (by decide +kernel)
    · have hf := ite2_f hf h12
      refine v_aload_n C 2 1 rfl 33 rfl (by decide +kernel) ?_
      refine v_aload_n C 1 0 rfl 34 rfl (by decide +kernel) ?_
      refine v_iconst C (0) (0) (by decide) 35 rfl (by decide +kernel) ?_
      obtain ⟨r14, σ13, hcr14, hf⟩ := cl2_e hf
      refine v_cVN C 2 rfl (ns_kd_lt hk_a2 (by decide)) hk_a2 (by decide) [.ref (G.1 + a1), .int (0 : Int32)] [] (c_Mule_makeStep G l σ a2 a1 (0 : Int32) hcr14) 357 2 tw_656 tw_653 tw_655 ts_32 tw_4 hd_Mule_makeStep rfl ⟨(Nat.le_of_ble_eq_true rfl), (Nat.le_of_ble_eq_true rfl)⟩ ⟨(Nat.le_of_ble_eq_true rfl), (Nat.le_of_ble_eq_true rfl)⟩ (Nat.le_of_ble_eq_true rfl) rfl 38 rfl (by decide +kernel) [.int r14] rfl ?_
      refine v_pop C rfl 39 rfl (by decide +kernel) ?_
      refine v_aload_n C 3 2 rfl 40 rfl (by decide +kernel) ?_
      refine v_iload C 4 3 rfl 42 rfl (by decide +kernel) ?_
      refine v_aload_n C 2 1 rfl 43 rfl (by decide +kernel) ?_
      refine v_getIN C 2 1 rfl nin_2 (ns_kd_lt hk_a2 (by decide)) hk_a2 (by decide) (by decide) rfl 176 tw_86 rfl 46 rfl (by decide +kernel) ?_
      obtain ⟨hi15, hf⟩ := grd_e hf
      obtain ⟨σ16, hσ16, hf⟩ := bnd_e hf
      refine v_iast C hσ16 (ns_kd_lt hk_a3 (by decide)) hk_a3 hi15 47 rfl (by decide +kernel) ?_
      obtain ⟨z17, hz17, hf⟩ := bnd_e hf
      refine v_iinc C 4 (1) 3 z17 rfl (by rw [hz17]; rfl) [(4, .int z17), (1, .ref (G.1 + a1)), (2, .ref (G.1 + a2)), (3, .ref (G.1 + a3))] (by decide) rfl 50 rfl (by decide +kernel) ?_
      refine v_goto C 23 (by decide +kernel) ?_
      refine v_sub [1, 2, 3, 0] rfl ?_
      exact ih σ16 a1 a2 a3 z17 hk_a1 hk_a2 hk_a3 hf
theorem c_N_tellNumbers (G : ns_G) (l : Launch) (σ : ns_St) (a0 : Nat) (a1 : Nat) (a2 : Nat) (a3 : Nat) {r : Unit} {σ' : ns_St} (hf : g_N_tellNumbers σ a0 a1 a2 a3 = some (r, σ')) : ns_ok G l ⟨"NinthStep", "tellNumbers", "(LNinthStep$Mule;LNinthStep$Ground;LNinthStep$Mule;[I)V"⟩ prog_1_method_69_code 5 none 2 45 0 0 [.ref (G.1 + a0), .ref (G.1 + a1), .ref (G.1 + a2), .ref (G.1 + a3)] ns_N σ none ns_N σ' := by
  refine v_open (by decide) (Nat.le_of_ble_eq_true rfl) rfl ?_
  intro p e s m below meth c C hr _
  have C : ns_Cx G p s m _ meth c prog_1_method_69_code "NinthStep" 5 := C
  unfold g_N_tellNumbers at hf
  obtain ⟨hk_a0, hf⟩ := grd_e hf
  obtain ⟨hk_a1, hf⟩ := grd_e hf
  obtain ⟨hk_a2, hf⟩ := grd_e hf
  obtain ⟨hk_a3, hf⟩ := grd_e hf
  refine v_aload_n C 2 2 rfl 1 rfl (by decide +kernel) ?_
  refine v_aload_n C 0 0 rfl 2 rfl (by decide +kernel) ?_
  obtain ⟨r19, σ18, hcr19, hf⟩ := cl2_e hf
  refine v_cVN C 2 rfl (ns_kd_lt hk_a2 (by decide)) hk_a2 (by decide) [.ref (G.1 + a0)] [] (c_Mule_takeFrom G l σ a2 a0 hcr19) 352 1 tw_522 tw_648 tw_521 ts_19 tw_4 hd_Mule_takeFrom rfl ⟨(Nat.le_of_ble_eq_true rfl), (Nat.le_of_ble_eq_true rfl)⟩ ⟨(Nat.le_of_ble_eq_true rfl), (Nat.le_of_ble_eq_true rfl)⟩ (Nat.le_of_ble_eq_true rfl) rfl 5 rfl (by decide +kernel) [] rfl ?_
  refine v_aload_n C 3 3 rfl 6 rfl (by decide +kernel) ?_
  refine v_aload_n C 0 0 rfl 7 rfl (by decide +kernel) ?_
  refine v_getIN C 2 2 rfl nin_2 (ns_kd_lt hk_a0 (by decide)) hk_a0 (by decide) (by decide) rfl 179 tw_93 rfl 10 rfl (by decide +kernel) ?_
  refine v_aload_n C 0 0 rfl 11 rfl (by decide +kernel) ?_
  refine v_getIN C 2 1 rfl nin_2 (ns_kd_lt hk_a0 (by decide)) hk_a0 (by decide) (by decide) rfl 176 tw_86 rfl 14 rfl (by decide +kernel) ?_
  obtain ⟨hi20, hf⟩ := grd_e hf
  obtain ⟨σ21, hσ21, hf⟩ := bnd_e hf
  refine v_iast C hσ21 (ns_kd_lt hk_a3 (by decide)) hk_a3 hi20 15 rfl (by decide +kernel) ?_
  refine v_aload_n C 0 0 rfl 16 rfl (by decide +kernel) ?_
  refine v_getIN C 2 2 rfl nin_2 (ns_kd_lt hk_a0 (by decide)) hk_a0 (by decide) (by decide) rfl 179 tw_93 rfl 19 rfl (by decide +kernel) ?_
  refine v_iconst C (1) (1) (by decide) 20 rfl (by decide +kernel) ?_
  refine v_iadd C 21 rfl (by decide +kernel) ?_
  obtain ⟨z22, hz22, hf⟩ := bnd_e hf
  refine v_nmI hz22 ?_
  refine v_istore C 4 [(4, .int z22), (0, .ref (G.1 + a0)), (1, .ref (G.1 + a1)), (2, .ref (G.1 + a2)), (3, .ref (G.1 + a3))] (by decide) rfl 23 rfl (by decide +kernel) ?_
  refine v_sub [2, 3, 4, 0] rfl ?_
  exact t_N_tellNumbers_23 G l C hr  ns_F σ21 a1 a2 a3 z22 hk_a1 hk_a2 hk_a3 hf
theorem hd_N_tellNumbers : (⟨"NinthStep", "tellNumbers", "(LNinthStep$Mule;LNinthStep$Ground;LNinthStep$Mule;[I)V"⟩ : MethodName).cls ≠ "java/lang/invoke/MethodHandle" ∧ (⟨"NinthStep", "tellNumbers", "(LNinthStep$Mule;LNinthStep$Ground;LNinthStep$Mule;[I)V"⟩ : MethodName).cls ≠ "java/lang/invoke/VarHandle" ∧ (parseMethodDescriptor (⟨"NinthStep", "tellNumbers", "(LNinthStep$Mule;LNinthStep$Ground;LNinthStep$Mule;[I)V"⟩ : MethodName).desc).map (fun d => d.parameters.length) = some 4 := by decide +kernel
def g_TurnPlan_cellOf (σ : ns_St) (x0 : Int32) (x1 : Int32) : Option (Int32 × ns_St) := cl2 (g_Math_min σ x0 (60 : Int32)) fun r10 σ9 => cl2 (g_Math_max σ9 (0 : Int32) r10) fun r12 σ11 => cl2 (g_Math_min σ11 x1 (63 : Int32)) fun r14 σ13 => cl2 (g_Math_max σ13 (0 : Int32) r14) fun r16 σ15 => some (((r12 * (64 : Int32)) + r16), σ15)
theorem c_TurnPlan_cellOf (G : ns_G) (l : Launch) (σ : ns_St) (x0 : Int32) (x1 : Int32) {r : Int32} {σ' : ns_St} (hf : g_TurnPlan_cellOf σ x0 x1 = some (r, σ')) : ns_ok G l ⟨"NinthStep$TurnPlan", "cellOf", "(II)I"⟩ prog_8_method_8_code 4 (some .int) 1 21 0 0 [.int x0, .int x1] ns_N σ (some (.int r)) ns_N σ' := by
  refine v_open (by decide) (Nat.le_of_ble_eq_true rfl) rfl ?_
  intro p e s m below meth c C hr _
  have C : ns_Cx G p s m _ meth c prog_8_method_8_code "NinthStep$TurnPlan" 4 := C
  unfold g_TurnPlan_cellOf at hf
  refine v_iconst C (0) (0) (by decide) 1 rfl (by decide +kernel) ?_
  refine v_iload_n C 0 0 rfl 2 rfl (by decide +kernel) ?_
  refine v_bipush C (60) (60) (by decide) 4 rfl (by decide +kernel) ?_
  obtain ⟨r10, σ9, hcr10, hf⟩ := cl2_e hf
  refine v_cS C [.int x0, .int (60 : Int32)] [.int (0 : Int32)] (c_Math_min G l σ x0 (60 : Int32) hcr10) 71 2 tw_663 tw_722 tw_662 tw_18 hd_Math_min rfl ⟨(Nat.le_of_ble_eq_true rfl), (Nat.le_of_ble_eq_true rfl)⟩ ⟨(Nat.le_of_ble_eq_true rfl), (Nat.le_of_ble_eq_true rfl)⟩ (Nat.le_of_ble_eq_true rfl) rfl 7 rfl (by decide +kernel) [.int r10, .int (0 : Int32)] rfl ?_
  obtain ⟨r12, σ11, hcr12, hf⟩ := cl2_e hf
  refine v_cS C [.int (0 : Int32), .int r10] [] (c_Math_max G l σ9 (0 : Int32) r10 hcr12) 99 2 tw_598 tw_723 tw_597 tw_18 hd_Math_max rfl ⟨(Nat.le_of_ble_eq_true rfl), (Nat.le_of_ble_eq_true rfl)⟩ ⟨(Nat.le_of_ble_eq_true rfl), (Nat.le_of_ble_eq_true rfl)⟩ (Nat.le_of_ble_eq_true rfl) rfl 10 rfl (by decide +kernel) [.int r12] rfl ?_
  refine v_istore_n C 2 [(2, .int r12), (0, .int x0), (1, .int x1)] (by decide) rfl 11 rfl (by decide +kernel) ?_
  refine v_iconst C (0) (0) (by decide) 12 rfl (by decide +kernel) ?_
  refine v_iload_n C 1 2 rfl 13 rfl (by decide +kernel) ?_
  refine v_bipush C (63) (63) (by decide) 15 rfl (by decide +kernel) ?_
  obtain ⟨r14, σ13, hcr14, hf⟩ := cl2_e hf
  refine v_cS C [.int x1, .int (63 : Int32)] [.int (0 : Int32)] (c_Math_min G l σ11 x1 (63 : Int32) hcr14) 71 2 tw_663 tw_722 tw_662 tw_18 hd_Math_min rfl ⟨(Nat.le_of_ble_eq_true rfl), (Nat.le_of_ble_eq_true rfl)⟩ ⟨(Nat.le_of_ble_eq_true rfl), (Nat.le_of_ble_eq_true rfl)⟩ (Nat.le_of_ble_eq_true rfl) rfl 18 rfl (by decide +kernel) [.int r14, .int (0 : Int32)] rfl ?_
  obtain ⟨r16, σ15, hcr16, hf⟩ := cl2_e hf
  refine v_cS C [.int (0 : Int32), .int r14] [] (c_Math_max G l σ13 (0 : Int32) r14 hcr16) 99 2 tw_598 tw_723 tw_597 tw_18 hd_Math_max rfl ⟨(Nat.le_of_ble_eq_true rfl), (Nat.le_of_ble_eq_true rfl)⟩ ⟨(Nat.le_of_ble_eq_true rfl), (Nat.le_of_ble_eq_true rfl)⟩ (Nat.le_of_ble_eq_true rfl) rfl 21 rfl (by decide +kernel) [.int r16] rfl ?_
  refine v_istore_n C 3 [(3, .int r16), (2, .int r12), (0, .int x0), (1, .int x1)] (by decide) rfl 22 rfl (by decide +kernel) ?_
  refine v_iload_n C 2 1 rfl 23 rfl (by decide +kernel) ?_
  refine v_bipush C (64) (64) (by decide) 25 rfl (by decide +kernel) ?_
  refine v_imul C 26 rfl (by decide +kernel) ?_
  refine v_iload_n C 3 0 rfl 27 rfl (by decide +kernel) ?_
  refine v_iadd C 28 rfl (by decide +kernel) ?_
  obtain ⟨rfl, rfl⟩ := ret_e hf
  exact v_iret C hr (by decide +kernel)
theorem hd_TurnPlan_cellOf : (⟨"NinthStep$TurnPlan", "cellOf", "(II)I"⟩ : MethodName).cls ≠ "java/lang/invoke/MethodHandle" ∧ (⟨"NinthStep$TurnPlan", "cellOf", "(II)I"⟩ : MethodName).cls ≠ "java/lang/invoke/VarHandle" ∧ (parseMethodDescriptor (⟨"NinthStep$TurnPlan", "cellOf", "(II)I"⟩ : MethodName).desc).map (fun d => d.parameters.length) = some 2 := by decide +kernel
def g_TurnPlan_hasSeen (σ : ns_St) (a0 : Nat) (x1 : Int32) (x2 : Int32) : Option (Int32 × ns_St) := grd (ns_kd a0 = 6) <| ite2 (x1 = (σ.1 a0 4)) (some ((1 : Int32), σ)) (ite2 (x2 = 0) (some ((1 : Int32), σ)) (drf (σ.2.2 a0 3) fun b9 => grd (ns_kd b9 = 1) <| cl2 (g_N_isIn σ (σ.2.1 b9 4) x1) fun r11 σ10 => ite2 (r11 = 0) (some ((1 : Int32), σ10)) (some ((0 : Int32), σ10))))
theorem c_TurnPlan_hasSeen (G : ns_G) (l : Launch) (σ : ns_St) (a0 : Nat) (x1 : Int32) (x2 : Int32) {r : Int32} {σ' : ns_St} (hf : g_TurnPlan_hasSeen σ a0 x1 x2 = some (r, σ')) : ns_ok G l ⟨"NinthStep$TurnPlan", "hasSeen", "(II)Z"⟩ prog_8_method_7_code 3 (some .boolean) 1 22 0 0 [.ref (G.1 + a0), .int x1, .int x2] ns_N σ (some (.int r)) ns_N σ' := by
  refine v_open (by decide) (Nat.le_of_ble_eq_true rfl) rfl ?_
  intro p e s m below meth c C hr _
  have C : ns_Cx G p s m _ meth c prog_8_method_7_code "NinthStep$TurnPlan" 3 := C
  unfold g_TurnPlan_hasSeen at hf
  obtain ⟨hk_a0, hf⟩ := grd_e hf
  refine v_iload_n C 1 1 rfl 1 rfl (by decide +kernel) ?_
  refine v_aload_n C 0 0 rfl 2 rfl (by decide +kernel) ?_
  refine v_getI C 6 4 rfl nin_6 (ns_kd_lt hk_a0 (by decide)) hk_a0 (by decide) (by decide) rfl 33 tw_197 rfl 5 rfl (by decide +kernel) ?_
  refine v_icmp_eq C 26 8 rfl (by decide +kernel) (fun h7 => ?_) (fun h7 => ?_)
  · have hf := ite2_t hf h7
    refine v_iconst C (1) (1) (by decide) 27 rfl (by decide +kernel) ?_
    refine v_goto C 31 (by decide +kernel) ?_
    obtain ⟨rfl, rfl⟩ := ret_e hf
    exact v_zret C hr rfl (by decide +kernel)
  · have hf := ite2_f hf h7
    refine v_iload_n C 2 2 rfl 9 rfl (by decide +kernel) ?_
    refine v_if_eq C 26 12 rfl (by decide +kernel) (fun h8 => ?_) (fun h8 => ?_)
    · have hf := ite2_t hf h8
      refine v_iconst C (1) (1) (by decide) 27 rfl (by decide +kernel) ?_
      refine v_goto C 31 (by decide +kernel) ?_
      obtain ⟨rfl, rfl⟩ := ret_e hf
      exact v_zret C hr rfl (by decide +kernel)
    · have hf := ite2_f hf h8
      refine v_aload_n C 0 0 rfl 13 rfl (by decide +kernel) ?_
      obtain ⟨b9, hb9, hf⟩ := drf_e hf
      obtain ⟨hk_b9, hf⟩ := grd_e hf
      refine v_getR C 6 3 hb9 rfl nin_6 (ns_kd_lt hk_a0 (by decide)) hk_a0 (by decide) (by decide) rfl 25 tw_196 rfl 16 rfl (by decide +kernel) ?_
      refine v_getJN C 1 4 rfl nin_1 (ns_kd_lt hk_b9 (by decide)) hk_b9 (by decide) (by decide) rfl 96 tw_62 rfl 19 rfl (by decide +kernel) ?_
      refine v_iload_n C 1 1 rfl 20 rfl (by decide +kernel) ?_
      obtain ⟨r11, σ10, hcr11, hf⟩ := cl2_e hf
      refine v_cSN C [.long (σ.2.1 b9 4), .int x1] [] (c_N_isIn G l σ (σ.2.1 b9 4) x1 hcr11) 88 2 tw_455 tw_728 tw_454 tw_1 hd_N_isIn rfl ⟨(Nat.le_of_ble_eq_true rfl), (Nat.le_of_ble_eq_true rfl)⟩ ⟨(Nat.le_of_ble_eq_true rfl), (Nat.le_of_ble_eq_true rfl)⟩ (Nat.le_of_ble_eq_true rfl) rfl 23 rfl (by decide +kernel) [.int r11] rfl ?_
      refine v_if_ne C 30 26 rfl (by decide +kernel) (fun h12 => ?_) (fun h12 => ?_)
      · have hf := ite2_f hf h12
        refine v_iconst C (0) (0) (by decide) 31 rfl (by decide +kernel) ?_
        obtain ⟨rfl, rfl⟩ := ret_e hf
        exact v_zret C hr rfl (by decide +kernel)
      · have hf := ite2_t hf h12
        refine v_iconst C (1) (1) (by decide) 27 rfl (by decide +kernel) ?_
        refine v_goto C 31 (by decide +kernel) ?_
        obtain ⟨rfl, rfl⟩ := ret_e hf
        exact v_zret C hr rfl (by decide +kernel)
theorem hd_TurnPlan_hasSeen : (⟨"NinthStep$TurnPlan", "hasSeen", "(II)Z"⟩ : MethodName).cls = "NinthStep$TurnPlan" ∧ (⟨"NinthStep$TurnPlan", "hasSeen", "(II)Z"⟩ : MethodName).cls ≠ "java/lang/invoke/MethodHandle" ∧ (⟨"NinthStep$TurnPlan", "hasSeen", "(II)Z"⟩ : MethodName).cls ≠ "java/lang/invoke/VarHandle" ∧ (parseMethodDescriptor (⟨"NinthStep$TurnPlan", "hasSeen", "(II)Z"⟩ : MethodName).desc).map (fun d => d.parameters.length) = some 2 := by decide +kernel
def g_Mule_makeTurn (σ : ns_St) (a0 : Nat) (a1 : Nat) : Option (Int32 × ns_St) := grd (ns_kd a0 = 2) <| grd (ns_kd a1 = 1) <| bnd (ns_pI σ a0 3 ((σ.1 a0 3) + (1 : Int32))) fun σ8 => cl2 (g_Mule_mayStop σ8 a0 a1) fun r10 σ9 => ite2 (r10 = 0) (grd (r10 = 0 ∨ r10 = 1) <| some (r10, σ9)) (bnd (ns_pI σ9 a0 3 (0 : Int32)) fun σ13 => grd (r10 = 0 ∨ r10 = 1) <| some (r10, σ13))
theorem c_Mule_makeTurn (G : ns_G) (l : Launch) (σ : ns_St) (a0 : Nat) (a1 : Nat) {r : Int32} {σ' : ns_St} (hf : g_Mule_makeTurn σ a0 a1 = some (r, σ')) : ns_ok G l ⟨"NinthStep$Mule", "makeTurn", "(LNinthStep$Ground;)Z"⟩ prog_4_method_7_code 3 (some .boolean) 1 21 0 0 [.ref (G.1 + a0), .ref (G.1 + a1)] ns_N σ (some (.int r)) ns_N σ' := by
  refine v_open (by decide) (Nat.le_of_ble_eq_true rfl) rfl ?_
  intro p e s m below meth c C hr _
  have C : ns_Cx G p s m _ meth c prog_4_method_7_code "NinthStep$Mule" 3 := C
  unfold g_Mule_makeTurn at hf
  obtain ⟨hk_a0, hf⟩ := grd_e hf
  obtain ⟨hk_a1, hf⟩ := grd_e hf
  refine v_aload_n C 0 0 rfl 1 rfl (by decide +kernel) ?_
  refine v_dup C rfl 2 rfl (by decide +kernel) ?_
  refine v_getI C 2 3 rfl nin_2 (ns_kd_lt hk_a0 (by decide)) hk_a0 (by decide) (by decide) rfl 24 tw_94 rfl 5 rfl (by decide +kernel) ?_
  refine v_iconst C (1) (1) (by decide) 6 rfl (by decide +kernel) ?_
  refine v_iadd C 7 rfl (by decide +kernel) ?_
  obtain ⟨σ8, hσ8, hf⟩ := bnd_e hf
  refine v_putI C 2 3 hσ8 rfl nin_2 ny_2 nty_2 nnm_2 (ns_kd_lt hk_a0 (by decide)) hk_a0 (by decide) (by decide) rfl rfl rfl rfl 24 tw_94 rfl 10 rfl (by decide +kernel) ?_
  refine v_aload_n C 0 0 rfl 11 rfl (by decide +kernel) ?_
  refine v_aload_n C 1 1 rfl 12 rfl (by decide +kernel) ?_
  obtain ⟨r10, σ9, hcr10, hf⟩ := cl2_e hf
  refine v_cV C 2 rfl (ns_kd_lt hk_a0 (by decide)) hk_a0 (by decide) [.ref (G.1 + a1)] [] (c_Mule_mayStop G l σ8 a0 a1 hcr10) 55 1 tw_660 tw_657 tw_659 ts_33 tw_4 hd_Mule_mayStop rfl ⟨(Nat.le_of_ble_eq_true rfl), (Nat.le_of_ble_eq_true rfl)⟩ ⟨(Nat.le_of_ble_eq_true rfl), (Nat.le_of_ble_eq_true rfl)⟩ (Nat.le_of_ble_eq_true rfl) rfl 15 rfl (by decide +kernel) [.int r10] rfl ?_
  refine v_istore_n C 2 [(2, .int r10), (0, .ref (G.1 + a0)), (1, .ref (G.1 + a1))] (by decide) rfl 16 rfl (by decide +kernel) ?_
  refine v_iload_n C 2 0 rfl 17 rfl (by decide +kernel) ?_
  refine v_if_eq C 25 20 rfl (by decide +kernel) (fun h11 => ?_) (fun h11 => ?_)
  · have hf := ite2_t hf h11
    refine v_iload_n C 2 0 rfl 26 rfl (by decide +kernel) ?_
    obtain ⟨hz12, hf⟩ := grd_e hf
    obtain ⟨rfl, rfl⟩ := ret_e hf
    exact v_zret C hr (ns_z01 hz12) (by decide +kernel)
  · have hf := ite2_f hf h11
    refine v_aload_n C 0 1 rfl 21 rfl (by decide +kernel) ?_
    refine v_iconst C (0) (0) (by decide) 22 rfl (by decide +kernel) ?_
    obtain ⟨σ13, hσ13, hf⟩ := bnd_e hf
    refine v_putI C 2 3 hσ13 rfl nin_2 ny_2 nty_2 nnm_2 (ns_kd_lt hk_a0 (by decide)) hk_a0 (by decide) (by decide) rfl rfl rfl rfl 24 tw_94 rfl 25 rfl (by decide +kernel) ?_
    refine v_iload_n C 2 0 rfl 26 rfl (by decide +kernel) ?_
    obtain ⟨hz14, hf⟩ := grd_e hf
    obtain ⟨rfl, rfl⟩ := ret_e hf
    exact v_zret C hr (ns_z01 hz14) (by decide +kernel)
theorem hd_Mule_makeTurn : (⟨"NinthStep$Mule", "makeTurn", "(LNinthStep$Ground;)Z"⟩ : MethodName).cls = "NinthStep$Mule" ∧ (⟨"NinthStep$Mule", "makeTurn", "(LNinthStep$Ground;)Z"⟩ : MethodName).cls ≠ "java/lang/invoke/MethodHandle" ∧ (⟨"NinthStep$Mule", "makeTurn", "(LNinthStep$Ground;)Z"⟩ : MethodName).cls ≠ "java/lang/invoke/VarHandle" ∧ (parseMethodDescriptor (⟨"NinthStep$Mule", "makeTurn", "(LNinthStep$Ground;)Z"⟩ : MethodName).desc).map (fun d => d.parameters.length) = some 1 := by decide +kernel
