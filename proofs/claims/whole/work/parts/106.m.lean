def g_N_placesOfTrain_51  : Nat → ns_St → Nat → Int32 → Int32 → Int64 → Int32 → Option (Int32 × ns_St)
  | 0, _, _, _, _, _, _ => none
  | f + 1, σ, a0, x1, x2, x3, x5 => drf (σ.2.2 a0 0) fun b26 => grd (ns_kd b26 = 7) <| ite2 ((σ.1 b26 2) ≤ x5) (cl2 (g_Long_bitCount σ x3) fun r29 σ28 => some (r29, σ28)) (ite2 (((x1 >>> (x5 &&& 31)) &&& (1 : Int32)) = 0) (bnd (x5 + 1) fun z31 => (g_N_placesOfTrain_51 f) σ a0 x1 x2 x3 z31) (drf (σ.2.2 a0 0) fun b32 => grd (ns_kd b32 = 7) <| drf (σ.2.2 b32 1) fun b33 => grd (ns_kd b33 = 12) <| grd (ns_in x5 (ns_ln b33)) <| drf (σ.2.2 b33 (ns_ix x5)) fun b35 => grd (ns_kd b35 = 2) <| cl2 (g_N_stopsBy σ a0 b35 x2 (σ.1 b35 1) (σ.1 b35 3)) fun r37 σ36 => bnd (x3 ||| r37) fun z38 => bnd (x5 + 1) fun z39 => (g_N_placesOfTrain_51 f) σ36 a0 x1 x2 z38 z39))
def g_N_placesOfTrain_4  : Nat → ns_St → Nat → Int32 → Int32 → Int32 → Option (Int32 × ns_St)
  | 0, _, _, _, _, _ => none
  | f + 1, σ, a0, x1, x2, x3 => drf (σ.2.2 a0 0) fun b40 => grd (ns_kd b40 = 7) <| ite2 ((σ.1 b40 2) ≤ x3) (g_N_placesOfTrain_51 ns_F σ a0 x1 x2 (0 : Int64) (0 : Int32)) (ite2 (((x1 >>> (x3 &&& 31)) &&& (1 : Int32)) = 0) (bnd (x3 + 1) fun z43 => (g_N_placesOfTrain_4 f) σ a0 x1 x2 z43) (drf (σ.2.2 a0 0) fun b44 => grd (ns_kd b44 = 7) <| drf (σ.2.2 b44 1) fun b45 => grd (ns_kd b45 = 12) <| grd (ns_in x3 (ns_ln b45)) <| drf (σ.2.2 b45 (ns_ix x3)) fun b47 => grd (ns_kd b47 = 2) <| cl2 (g_Math_max σ x2 (σ.1 b47 2)) fun r49 σ48 => bnd (x3 + 1) fun z50 => (g_N_placesOfTrain_4 f) σ48 a0 x1 r49 z50))
def g_N_placesOfTrain (σ : ns_St) (a0 : Nat) (x1 : Int32) : Option (Int32 × ns_St) := grd (ns_kd a0 = 8) <| g_N_placesOfTrain_4 ns_F σ a0 x1 (0 : Int32) (0 : Int32)
theorem t_N_placesOfTrain_51 (G : ns_G) (l : Launch) {p : Program} {e : Env} {s : State} {m : MethodId} {args : Array Value} {below : List Frame} {meth : Method} {c : Code} (C : ns_Cx G p s m args meth c prog_1_method_60_code "NinthStep" 7) (hr : meth.sig.returnType = (some .int)) {r : Int32} {σ' : ns_St}  : ∀ (f : Nat) (σ : ns_St) (a0 : Nat) (x1 : Int32) (x2 : Int32) (x3 : Int64) (x5 : Int32) (hk_a0 : ns_kd a0 = 8), g_N_placesOfTrain_51 f σ a0 x1 x2 x3 x5 = some (r, σ') → VV G p l e { frames := 3, cells := 0, slots := 0, locals := 72 } s m args below meth c 7 0 0 (MQ below (ns_Qc G (some (.int r)) ns_N σ') args s 0 0 (ns_A G)) ns_N σ 51 [(0, .ref (G.1 + a0)), (1, .int x1), (2, .int x2), (3, .long x3), (5, .int x5)] [] := by
  intro f
  induction f with
  | zero =>
    intro σ a0 x1 x2 x3 x5 hk_a0 hf
    cases hf
  | succ f ih =>
    intro σ a0 x1 x2 x3 x5 hk_a0 hf
    rw [g_N_placesOfTrain_51] at hf
    refine v_iload C 5 4 rfl 53 rfl (by decide +kernel) ?_
    refine v_aload_n C 0 0 rfl 54 rfl (by decide +kernel) ?_
    obtain ⟨b26, hb26, hf⟩ := drf_e hf
    obtain ⟨hk_b26, hf⟩ := grd_e hf
    refine v_getR C 8 0 hb26 rfl nin_8 (ns_kd_lt hk_a0 (by decide)) hk_a0 (by decide) (by decide) rfl 12 tw_287 rfl 57 rfl (by decide +kernel) ?_
    refine v_getIN C 7 2 rfl nin_7 (ns_kd_lt hk_b26 (by decide)) hk_b26 (by decide) (by decide) rfl 135 tw_135 rfl 60 rfl (by decide +kernel) ?_
    refine v_icmp_ge C 110 63 rfl (by decide +kernel) (fun h27 => ?_) (fun h27 => ?_)
    · have hf := ite2_t hf h27
      refine v_lload_n C 3 3 rfl 111 rfl (by decide +kernel) ?_
      obtain ⟨r29, σ28, hcr29, hf⟩ := cl2_e hf
      refine v_cS C [.long x3] [] (c_Long_bitCount G l σ x3 hcr29) 213 1 tw_410 tw_408 tw_409 tw_12 hd_Long_bitCount rfl ⟨(Nat.le_of_ble_eq_true rfl), (Nat.le_of_ble_eq_true rfl)⟩ ⟨(Nat.le_of_ble_eq_true rfl), (Nat.le_of_ble_eq_true rfl)⟩ (Nat.le_of_ble_eq_true rfl) rfl 114 rfl (by decide +kernel) [.int r29] rfl ?_
      cases hf
      exact v_iret C hr (by decide +kernel)
    · have hf := ite2_f hf h27
      refine v_iload_n C 1 1 rfl 64 rfl (by decide +kernel) ?_
      refine v_iload C 5 4 rfl 66 rfl (by decide +kernel) ?_
      refine v_ishr C 67 rfl (by decide +kernel) ?_
      refine v_iconst C (1) (1) (by decide) 68 rfl (by decide +kernel) ?_
      refine v_iand C 69 rfl (by decide +kernel) ?_
      refine v_if_eq C 104 72 rfl (by decide +kernel) (fun h30 => ?_) (fun h30 => ?_)
      · have hf := ite2_t hf h30
        obtain ⟨z31, hz31, hf⟩ := bnd_e hf
        refine v_iinc C 5 (1) 4 z31 rfl (by rw [hz31]; rfl) [(5, .int z31), (0, .ref (G.1 + a0)), (1, .int x1), (2, .int x2), (3, .long x3)] (by decide) rfl 107 rfl (by decide +kernel) ?_
        refine v_goto C 51 (by decide +kernel) ?_
        refine v_sub [1, 2, 3, 4, 0] rfl ?_
        exact ih σ a0 x1 x2 x3 z31 hk_a0 hf
      · have hf := ite2_f hf h30
        refine v_aload_n C 0 0 rfl 73 rfl (by decide +kernel) ?_
        obtain ⟨b32, hb32, hf⟩ := drf_e hf
        obtain ⟨hk_b32, hf⟩ := grd_e hf
        refine v_getR C 8 0 hb32 rfl nin_8 (ns_kd_lt hk_a0 (by decide)) hk_a0 (by decide) (by decide) rfl 12 tw_287 rfl 76 rfl (by decide +kernel) ?_
        obtain ⟨b33, hb33, hf⟩ := drf_e hf
        obtain ⟨hk_b33, hf⟩ := grd_e hf
        refine v_getRN C 7 1 hb33 rfl nin_7 (ns_kd_lt hk_b32 (by decide)) hk_b32 (by decide) (by decide) rfl 266 tw_131 rfl 79 rfl (by decide +kernel) ?_
        refine v_iload C 5 4 rfl 81 rfl (by decide +kernel) ?_
        obtain ⟨hi34, hf⟩ := grd_e hf
        obtain ⟨b35, hb35, hf⟩ := drf_e hf
        obtain ⟨hk_b35, hf⟩ := grd_e hf
        refine v_aald C 12 (by decide) (ns_kd_lt hk_b33 (by decide)) hk_b33 hi34 hb35 82 rfl (by decide +kernel) ?_
        refine v_astore C 6 [(6, .ref (G.1 + b35)), (0, .ref (G.1 + a0)), (1, .int x1), (2, .int x2), (3, .long x3), (5, .int x5)] (by decide) rfl 84 rfl (by decide +kernel) ?_
        refine v_lload_n C 3 4 rfl 85 rfl (by decide +kernel) ?_
        refine v_aload_n C 0 1 rfl 86 rfl (by decide +kernel) ?_
        refine v_aload C 6 0 rfl 88 rfl (by decide +kernel) ?_
        refine v_iload_n C 2 3 rfl 89 rfl (by decide +kernel) ?_
        refine v_aload C 6 0 rfl 91 rfl (by decide +kernel) ?_
        refine v_getIN C 2 1 rfl nin_2 (ns_kd_lt hk_b35 (by decide)) hk_b35 (by decide) (by decide) rfl 176 tw_86 rfl 94 rfl (by decide +kernel) ?_
        refine v_aload C 6 0 rfl 96 rfl (by decide +kernel) ?_
        refine v_getIN C 2 3 rfl nin_2 (ns_kd_lt hk_b35 (by decide)) hk_b35 (by decide) (by decide) rfl 182 tw_97 rfl 99 rfl (by decide +kernel) ?_
        obtain ⟨r37, σ36, hcr37, hf⟩ := cl2_e hf
        refine v_cV C 8 rfl (ns_kd_lt hk_a0 (by decide)) hk_a0 (by decide) [.ref (G.1 + b35), .int x2, .int (σ.1 b35 1), .int (σ.1 b35 3)] [.long x3] (c_N_stopsBy G l σ a0 b35 x2 (σ.1 b35 1) (σ.1 b35 3) hcr37) 258 4 tw_647 tw_644 tw_646 ts_30 tw_1 hd_N_stopsBy rfl ⟨(Nat.le_of_ble_eq_true rfl), (Nat.le_of_ble_eq_true rfl)⟩ ⟨(Nat.le_of_ble_eq_true rfl), (Nat.le_of_ble_eq_true rfl)⟩ (Nat.le_of_ble_eq_true rfl) rfl 102 rfl (by decide +kernel) [.long r37, .long x3] rfl ?_
        refine v_lor C 103 rfl (by decide +kernel) ?_
        obtain ⟨z38, hz38, hf⟩ := bnd_e hf
        refine v_nmJ hz38 ?_
        refine v_lstore_n C 3 [(3, .long z38), (6, .ref (G.1 + b35)), (0, .ref (G.1 + a0)), (1, .int x1), (2, .int x2), (5, .int x5)] (by decide) rfl 104 rfl (by decide +kernel) ?_
        obtain ⟨z39, hz39, hf⟩ := bnd_e hf
        refine v_iinc C 5 (1) 5 z39 rfl (by rw [hz39]; rfl) [(5, .int z39), (3, .long z38), (6, .ref (G.1 + b35)), (0, .ref (G.1 + a0)), (1, .int x1), (2, .int x2)] (by decide) rfl 107 rfl (by decide +kernel) ?_
        refine v_goto C 51 (by decide +kernel) ?_
        refine v_sub [3, 4, 5, 1, 0] rfl ?_
        exact ih σ36 a0 x1 x2 z38 z39 hk_a0 hf
theorem t_N_placesOfTrain_4 (G : ns_G) (l : Launch) {p : Program} {e : Env} {s : State} {m : MethodId} {args : Array Value} {below : List Frame} {meth : Method} {c : Code} (C : ns_Cx G p s m args meth c prog_1_method_60_code "NinthStep" 7) (hr : meth.sig.returnType = (some .int)) {r : Int32} {σ' : ns_St}  : ∀ (f : Nat) (σ : ns_St) (a0 : Nat) (x1 : Int32) (x2 : Int32) (x3 : Int32) (hk_a0 : ns_kd a0 = 8), g_N_placesOfTrain_4 f σ a0 x1 x2 x3 = some (r, σ') → VV G p l e { frames := 3, cells := 0, slots := 0, locals := 72 } s m args below meth c 7 0 0 (MQ below (ns_Qc G (some (.int r)) ns_N σ') args s 0 0 (ns_A G)) ns_N σ 4 [(0, .ref (G.1 + a0)), (1, .int x1), (2, .int x2), (3, .int x3)] [] := by
  intro f
  induction f with
  | zero =>
    intro σ a0 x1 x2 x3 hk_a0 hf
    cases hf
  | succ f ih =>
    intro σ a0 x1 x2 x3 hk_a0 hf
    rw [g_N_placesOfTrain_4] at hf
    refine v_iload_n C 3 3 rfl 5 rfl (by decide +kernel) ?_
    refine v_aload_n C 0 0 rfl 6 rfl (by decide +kernel) ?_
    obtain ⟨b40, hb40, hf⟩ := drf_e hf
    obtain ⟨hk_b40, hf⟩ := grd_e hf
    refine v_getR C 8 0 hb40 rfl nin_8 (ns_kd_lt hk_a0 (by decide)) hk_a0 (by decide) (by decide) rfl 12 tw_287 rfl 9 rfl (by decide +kernel) ?_
    refine v_getIN C 7 2 rfl nin_7 (ns_kd_lt hk_b40 (by decide)) hk_b40 (by decide) (by decide) rfl 135 tw_135 rfl 12 rfl (by decide +kernel) ?_
    refine v_icmp_ge C 46 15 rfl (by decide +kernel) (fun h41 => ?_) (fun h41 => ?_)
    · have hf := ite2_t hf h41
      refine v_lconst C 0 (0) (by decide) 47 rfl (by decide +kernel) ?_
      refine v_lstore_n C 3 [(3, .long (0 : Int64)), (0, .ref (G.1 + a0)), (1, .int x1), (2, .int x2)] (by decide) rfl 48 rfl (by decide +kernel) ?_
      refine v_iconst C (0) (0) (by decide) 49 rfl (by decide +kernel) ?_
      refine v_istore C 5 [(5, .int (0 : Int32)), (3, .long (0 : Int64)), (0, .ref (G.1 + a0)), (1, .int x1), (2, .int x2)] (by decide) rfl 51 rfl (by decide +kernel) ?_
      refine v_sub [2, 3, 4, 1, 0] rfl ?_
      exact t_N_placesOfTrain_51 G l C hr  ns_F σ a0 x1 x2 (0 : Int64) (0 : Int32) hk_a0 hf
    · have hf := ite2_f hf h41
      refine v_iload_n C 1 1 rfl 16 rfl (by decide +kernel) ?_
      refine v_iload_n C 3 3 rfl 17 rfl (by decide +kernel) ?_
      refine v_ishr C 18 rfl (by decide +kernel) ?_
      refine v_iconst C (1) (1) (by decide) 19 rfl (by decide +kernel) ?_
      refine v_iand C 20 rfl (by decide +kernel) ?_
      refine v_if_eq C 40 23 rfl (by decide +kernel) (fun h42 => ?_) (fun h42 => ?_)
      · have hf := ite2_t hf h42
        obtain ⟨z43, hz43, hf⟩ := bnd_e hf
        refine v_iinc C 3 (1) 3 z43 rfl (by rw [hz43]; rfl) [(3, .int z43), (0, .ref (G.1 + a0)), (1, .int x1), (2, .int x2)] (by decide) rfl 43 rfl (by decide +kernel) ?_
        refine v_goto C 4 (by decide +kernel) ?_
        refine v_sub [1, 2, 3, 0] rfl ?_
        exact ih σ a0 x1 x2 z43 hk_a0 hf
      · have hf := ite2_f hf h42
        refine v_iload_n C 2 2 rfl 24 rfl (by decide +kernel) ?_
        refine v_aload_n C 0 0 rfl 25 rfl (by decide +kernel) ?_
        obtain ⟨b44, hb44, hf⟩ := drf_e hf
        obtain ⟨hk_b44, hf⟩ := grd_e hf
        refine v_getR C 8 0 hb44 rfl nin_8 (ns_kd_lt hk_a0 (by decide)) hk_a0 (by decide) (by decide) rfl 12 tw_287 rfl 28 rfl (by decide +kernel) ?_
        obtain ⟨b45, hb45, hf⟩ := drf_e hf
        obtain ⟨hk_b45, hf⟩ := grd_e hf
        refine v_getRN C 7 1 hb45 rfl nin_7 (ns_kd_lt hk_b44 (by decide)) hk_b44 (by decide) (by decide) rfl 266 tw_131 rfl 31 rfl (by decide +kernel) ?_
        refine v_iload_n C 3 3 rfl 32 rfl (by decide +kernel) ?_
        obtain ⟨hi46, hf⟩ := grd_e hf
        obtain ⟨b47, hb47, hf⟩ := drf_e hf
        obtain ⟨hk_b47, hf⟩ := grd_e hf
        refine v_aald C 12 (by decide) (ns_kd_lt hk_b45 (by decide)) hk_b45 hi46 hb47 33 rfl (by decide +kernel) ?_
        refine v_getIN C 2 2 rfl nin_2 (ns_kd_lt hk_b47 (by decide)) hk_b47 (by decide) (by decide) rfl 179 tw_93 rfl 36 rfl (by decide +kernel) ?_
        obtain ⟨r49, σ48, hcr49, hf⟩ := cl2_e hf
        refine v_cS C [.int x2, .int (σ.1 b47 2)] [] (c_Math_max G l σ x2 (σ.1 b47 2) hcr49) 252 2 tw_598 tw_755 tw_597 tw_18 hd_Math_max rfl ⟨(Nat.le_of_ble_eq_true rfl), (Nat.le_of_ble_eq_true rfl)⟩ ⟨(Nat.le_of_ble_eq_true rfl), (Nat.le_of_ble_eq_true rfl)⟩ (Nat.le_of_ble_eq_true rfl) rfl 39 rfl (by decide +kernel) [.int r49] rfl ?_
        refine v_istore_n C 2 [(2, .int r49), (0, .ref (G.1 + a0)), (1, .int x1), (3, .int x3)] (by decide) rfl 40 rfl (by decide +kernel) ?_
        obtain ⟨z50, hz50, hf⟩ := bnd_e hf
        refine v_iinc C 3 (1) 3 z50 rfl (by rw [hz50]; rfl) [(3, .int z50), (2, .int r49), (0, .ref (G.1 + a0)), (1, .int x1)] (by decide) rfl 43 rfl (by decide +kernel) ?_
        refine v_goto C 4 (by decide +kernel) ?_
        refine v_sub [2, 3, 1, 0] rfl ?_
        exact ih σ48 a0 x1 r49 z50 hk_a0 hf
theorem c_N_placesOfTrain (G : ns_G) (l : Launch) (σ : ns_St) (a0 : Nat) (x1 : Int32) {r : Int32} {σ' : ns_St} (hf : g_N_placesOfTrain σ a0 x1 = some (r, σ')) : ns_ok G l ⟨"NinthStep", "placesOfTrain", "(I)I"⟩ prog_1_method_60_code 7 (some .int) 3 72 0 0 [.ref (G.1 + a0), .int x1] ns_N σ (some (.int r)) ns_N σ' := by
  refine v_open (by decide) (Nat.le_of_ble_eq_true rfl) rfl ?_
  intro p e s m below meth c C hr _
  have C : ns_Cx G p s m _ meth c prog_1_method_60_code "NinthStep" 7 := C
  unfold g_N_placesOfTrain at hf
  obtain ⟨hk_a0, hf⟩ := grd_e hf
  refine v_iconst C (0) (0) (by decide) 1 rfl (by decide +kernel) ?_
  refine v_istore_n C 2 [(2, .int (0 : Int32)), (0, .ref (G.1 + a0)), (1, .int x1)] (by decide) rfl 2 rfl (by decide +kernel) ?_
  refine v_iconst C (0) (0) (by decide) 3 rfl (by decide +kernel) ?_
  refine v_istore_n C 3 [(3, .int (0 : Int32)), (2, .int (0 : Int32)), (0, .ref (G.1 + a0)), (1, .int x1)] (by decide) rfl 4 rfl (by decide +kernel) ?_
  refine v_sub [2, 3, 1, 0] rfl ?_
  exact t_N_placesOfTrain_4 G l C hr  ns_F σ a0 x1 (0 : Int32) (0 : Int32) hk_a0 hf
theorem hd_N_placesOfTrain : (⟨"NinthStep", "placesOfTrain", "(I)I"⟩ : MethodName).cls = "NinthStep" ∧ (⟨"NinthStep", "placesOfTrain", "(I)I"⟩ : MethodName).cls ≠ "java/lang/invoke/MethodHandle" ∧ (⟨"NinthStep", "placesOfTrain", "(I)I"⟩ : MethodName).cls ≠ "java/lang/invoke/VarHandle" ∧ (parseMethodDescriptor (⟨"NinthStep", "placesOfTrain", "(I)I"⟩ : MethodName).desc).map (fun d => d.parameters.length) = some 1 := by decide +kernel
def g_N_train (σ : ns_St) (a0 : Nat) (x1 : Int32) (x2 : Int32) : Option (Int32 × ns_St) := grd (ns_kd a0 = 8) <| cl2 (g_N_shelfAt σ a0 x1) fun r24 σ23 => onul r24 (cl2 (g_N_refuse σ23 a0 (-2 : Int32)) fun r27 σ26 => some (r27, σ26)) (fun b25 => grd (ns_kd b25 = 3) <| cl2 (g_N_isWithin σ23 x2 (1 : Int32) (6 : Int32)) fun r29 σ28 => ite2 (r29 = 0) (cl2 (g_N_refuse σ28 a0 (-2 : Int32)) fun r44 σ43 => some (r44, σ43)) (cl2 (g_Shelf_troubleAsRow σ28 b25) fun r32 σ31 => ite2 (r32 = 0) (cl2 (g_N_mulesTold σ31 a0 b25 x2) fun r35 σ34 => ite2 (r35 = (-1 : Int32)) (cl2 (g_N_refuse σ34 a0 (-2 : Int32)) fun r40 σ39 => some (r40, σ39)) (cl2 (g_N_placesOfTrain σ34 a0 r35) fun r38 σ37 => some (r38, σ37))) (cl2 (g_N_refuse σ31 a0 r32) fun r42 σ41 => some (r42, σ41))))
theorem c_N_train (G : ns_G) (l : Launch) (σ : ns_St) (a0 : Nat) (x1 : Int32) (x2 : Int32) {r : Int32} {σ' : ns_St} (hf : g_N_train σ a0 x1 x2 = some (r, σ')) : ns_ok G l ⟨"NinthStep", "train", "(II)I"⟩ prog_1_method_30_code 6 (some .int) 4 98 0 0 [.ref (G.1 + a0), .int x1, .int x2] ns_N σ (some (.int r)) ns_N σ' := by
  refine v_open (by decide) (Nat.le_of_ble_eq_true rfl) rfl ?_
  intro p e s m below meth c C hr _
  have C : ns_Cx G p s m _ meth c prog_1_method_30_code "NinthStep" 6 := C
  unfold g_N_train at hf
  obtain ⟨hk_a0, hf⟩ := grd_e hf
  refine v_aload_n C 0 0 rfl 1 rfl (by decide +kernel) ?_
  refine v_iload_n C 1 1 rfl 2 rfl (by decide +kernel) ?_
  obtain ⟨r24, σ23, hcr24, hf⟩ := cl2_e hf
  rcases r24 with _ | b25
  · have hf := onul_n hf
    refine v_cV C 8 rfl (ns_kd_lt hk_a0 (by decide)) hk_a0 (by decide) [.int x1] [] (c_N_shelfAt G l σ a0 x1 hcr24) 71 1 tw_331 tw_328 tw_330 ts_0 tw_1 hd_N_shelfAt rfl ⟨(Nat.le_of_ble_eq_true rfl), (Nat.le_of_ble_eq_true rfl)⟩ ⟨(Nat.le_of_ble_eq_true rfl), (Nat.le_of_ble_eq_true rfl)⟩ (Nat.le_of_ble_eq_true rfl) rfl 5 rfl (by decide +kernel) [.null] rfl ?_
    refine v_astore_nN C 3 [(3, .null), (0, .ref (G.1 + a0)), (1, .int x1), (2, .int x2)] (by decide) rfl 6 rfl (by decide +kernel) ?_
    refine v_aload_nN C 3 0 rfl 7 rfl (by decide +kernel) ?_
    refine v_ifnullN C 20 (by decide +kernel) ?_
    refine v_aload_n C 0 1 rfl 21 rfl (by decide +kernel) ?_
    refine v_bipush C (-2) (-2) (by decide) 23 rfl (by decide +kernel) ?_
    obtain ⟨r27, σ26, hcr27, hf⟩ := cl2_e hf
    refine v_cV C 8 rfl (ns_kd_lt hk_a0 (by decide)) hk_a0 (by decide) [.int (-2 : Int32)] [] (c_N_refuse G l σ23 a0 (-2 : Int32) hcr27) 79 1 tw_338 tw_335 tw_337 ts_1 tw_1 hd_N_refuse rfl ⟨(Nat.le_of_ble_eq_true rfl), (Nat.le_of_ble_eq_true rfl)⟩ ⟨(Nat.le_of_ble_eq_true rfl), (Nat.le_of_ble_eq_true rfl)⟩ (Nat.le_of_ble_eq_true rfl) rfl 26 rfl (by decide +kernel) [.int r27] rfl ?_
    cases hf
    exact v_iret C hr (by decide +kernel)
  · have hf := onul_s hf
    obtain ⟨hk_b25, hf⟩ := grd_e hf
    refine v_cV C 8 rfl (ns_kd_lt hk_a0 (by decide)) hk_a0 (by decide) [.int x1] [] (c_N_shelfAt G l σ a0 x1 hcr24) 71 1 tw_331 tw_328 tw_330 ts_0 tw_1 hd_N_shelfAt rfl ⟨(Nat.le_of_ble_eq_true rfl), (Nat.le_of_ble_eq_true rfl)⟩ ⟨(Nat.le_of_ble_eq_true rfl), (Nat.le_of_ble_eq_true rfl)⟩ (Nat.le_of_ble_eq_true rfl) rfl 5 rfl (by decide +kernel) [.ref (G.1 + b25)] rfl ?_
    refine v_astore_n C 3 [(3, .ref (G.1 + b25)), (0, .ref (G.1 + a0)), (1, .int x1), (2, .int x2)] (by decide) rfl 6 rfl (by decide +kernel) ?_
    refine v_aload_n C 3 0 rfl 7 rfl (by decide +kernel) ?_
    refine v_ifnull C 20 10 rfl (by decide +kernel) ?_
    refine v_iload_n C 2 3 rfl 11 rfl (by decide +kernel) ?_
    refine v_iconst C (1) (1) (by decide) 12 rfl (by decide +kernel) ?_
    refine v_bipush C (6) (6) (by decide) 14 rfl (by decide +kernel) ?_
    obtain ⟨r29, σ28, hcr29, hf⟩ := cl2_e hf
    refine v_cS C [.int x2, .int (1 : Int32), .int (6 : Int32)] [] (c_N_isWithin G l σ23 x2 (1 : Int32) (6 : Int32) hcr29) 75 3 tw_334 tw_332 tw_333 tw_1 hd_N_isWithin rfl ⟨(Nat.le_of_ble_eq_true rfl), (Nat.le_of_ble_eq_true rfl)⟩ ⟨(Nat.le_of_ble_eq_true rfl), (Nat.le_of_ble_eq_true rfl)⟩ (Nat.le_of_ble_eq_true rfl) rfl 17 rfl (by decide +kernel) [.int r29] rfl ?_
    refine v_if_ne C 27 20 rfl (by decide +kernel) (fun h30 => ?_) (fun h30 => ?_)
    · have hf := ite2_f hf h30
      refine v_aload_n C 3 0 rfl 28 rfl (by decide +kernel) ?_
      obtain ⟨r32, σ31, hcr32, hf⟩ := cl2_e hf
      refine v_cVN C 3 rfl (ns_kd_lt hk_b25 (by decide)) hk_b25 (by decide) [] [] (c_Shelf_troubleAsRow G l σ28 b25 hcr32) 87 0 tw_350 tw_347 tw_349 ts_3 tw_9 hd_Shelf_troubleAsRow rfl ⟨(Nat.le_of_ble_eq_true rfl), (Nat.le_of_ble_eq_true rfl)⟩ ⟨(Nat.le_of_ble_eq_true rfl), (Nat.le_of_ble_eq_true rfl)⟩ (Nat.le_of_ble_eq_true rfl) rfl 31 rfl (by decide +kernel) [.int r32] rfl ?_
      refine v_istore C 4 [(4, .int r32), (3, .ref (G.1 + b25)), (0, .ref (G.1 + a0)), (1, .int x1), (2, .int x2)] (by decide) rfl 33 rfl (by decide +kernel) ?_
      refine v_iload C 4 0 rfl 35 rfl (by decide +kernel) ?_
      refine v_if_eq C 45 38 rfl (by decide +kernel) (fun h33 => ?_) (fun h33 => ?_)
      · have hf := ite2_t hf h33
        refine v_aload_n C 0 2 rfl 46 rfl (by decide +kernel) ?_
        refine v_aload_n C 3 1 rfl 47 rfl (by decide +kernel) ?_
        refine v_iload_n C 2 4 rfl 48 rfl (by decide +kernel) ?_
        obtain ⟨r35, σ34, hcr35, hf⟩ := cl2_e hf
        refine v_cV C 8 rfl (ns_kd_lt hk_a0 (by decide)) hk_a0 (by decide) [.ref (G.1 + b25), .int x2] [] (c_N_mulesTold G l σ31 a0 b25 x2 hcr35) 270 2 tw_776 tw_773 tw_775 ts_47 tw_1 hd_N_mulesTold rfl ⟨(Nat.le_of_ble_eq_true rfl), (Nat.le_of_ble_eq_true rfl)⟩ ⟨(Nat.le_of_ble_eq_true rfl), (Nat.le_of_ble_eq_true rfl)⟩ (Nat.le_of_ble_eq_true rfl) rfl 51 rfl (by decide +kernel) [.int r35] rfl ?_
        refine v_istore C 5 [(5, .int r35), (4, .int r32), (3, .ref (G.1 + b25)), (0, .ref (G.1 + a0)), (1, .int x1), (2, .int x2)] (by decide) rfl 53 rfl (by decide +kernel) ?_
        refine v_iload C 5 0 rfl 55 rfl (by decide +kernel) ?_
        refine v_iconst C (-1) (-1) (by decide) 56 rfl (by decide +kernel) ?_
        refine v_icmp_ne C 66 59 rfl (by decide +kernel) (fun h36 => ?_) (fun h36 => ?_)
        · have hf := ite2_f hf h36
          refine v_aload_n C 0 3 rfl 67 rfl (by decide +kernel) ?_
          refine v_iload C 5 0 rfl 69 rfl (by decide +kernel) ?_
          obtain ⟨r38, σ37, hcr38, hf⟩ := cl2_e hf
          refine v_cV C 8 rfl (ns_kd_lt hk_a0 (by decide)) hk_a0 (by decide) [.int r35] [] (c_N_placesOfTrain G l σ34 a0 r35 hcr38) 274 1 tw_780 tw_777 tw_779 ts_48 tw_1 hd_N_placesOfTrain rfl ⟨(Nat.le_of_ble_eq_true rfl), (Nat.le_of_ble_eq_true rfl)⟩ ⟨(Nat.le_of_ble_eq_true rfl), (Nat.le_of_ble_eq_true rfl)⟩ (Nat.le_of_ble_eq_true rfl) rfl 72 rfl (by decide +kernel) [.int r38] rfl ?_
          cases hf
          exact v_iret C hr (by decide +kernel)
        · have hf := ite2_t hf h36
          refine v_aload_n C 0 3 rfl 60 rfl (by decide +kernel) ?_
          refine v_bipush C (-2) (-2) (by decide) 62 rfl (by decide +kernel) ?_
          obtain ⟨r40, σ39, hcr40, hf⟩ := cl2_e hf
          refine v_cV C 8 rfl (ns_kd_lt hk_a0 (by decide)) hk_a0 (by decide) [.int (-2 : Int32)] [] (c_N_refuse G l σ34 a0 (-2 : Int32) hcr40) 79 1 tw_338 tw_335 tw_337 ts_1 tw_1 hd_N_refuse rfl ⟨(Nat.le_of_ble_eq_true rfl), (Nat.le_of_ble_eq_true rfl)⟩ ⟨(Nat.le_of_ble_eq_true rfl), (Nat.le_of_ble_eq_true rfl)⟩ (Nat.le_of_ble_eq_true rfl) rfl 65 rfl (by decide +kernel) [.int r40] rfl ?_
          cases hf
          exact v_iret C hr (by decide +kernel)
      · have hf := ite2_f hf h33
        refine v_aload_n C 0 2 rfl 39 rfl (by decide +kernel) ?_
        refine v_iload C 4 0 rfl 41 rfl (by decide +kernel) ?_
        obtain ⟨r42, σ41, hcr42, hf⟩ := cl2_e hf
        refine v_cV C 8 rfl (ns_kd_lt hk_a0 (by decide)) hk_a0 (by decide) [.int r32] [] (c_N_refuse G l σ31 a0 r32 hcr42) 79 1 tw_338 tw_335 tw_337 ts_1 tw_1 hd_N_refuse rfl ⟨(Nat.le_of_ble_eq_true rfl), (Nat.le_of_ble_eq_true rfl)⟩ ⟨(Nat.le_of_ble_eq_true rfl), (Nat.le_of_ble_eq_true rfl)⟩ (Nat.le_of_ble_eq_true rfl) rfl 44 rfl (by decide +kernel) [.int r42] rfl ?_
        cases hf
        exact v_iret C hr (by decide +kernel)
    · have hf := ite2_t hf h30
      refine v_aload_n C 0 1 rfl 21 rfl (by decide +kernel) ?_
      refine v_bipush C (-2) (-2) (by decide) 23 rfl (by decide +kernel) ?_
      obtain ⟨r44, σ43, hcr44, hf⟩ := cl2_e hf
      refine v_cV C 8 rfl (ns_kd_lt hk_a0 (by decide)) hk_a0 (by decide) [.int (-2 : Int32)] [] (c_N_refuse G l σ28 a0 (-2 : Int32) hcr44) 79 1 tw_338 tw_335 tw_337 ts_1 tw_1 hd_N_refuse rfl ⟨(Nat.le_of_ble_eq_true rfl), (Nat.le_of_ble_eq_true rfl)⟩ ⟨(Nat.le_of_ble_eq_true rfl), (Nat.le_of_ble_eq_true rfl)⟩ (Nat.le_of_ble_eq_true rfl) rfl 26 rfl (by decide +kernel) [.int r44] rfl ?_
      cases hf
      exact v_iret C hr (by decide +kernel)
theorem hd_N_train : (⟨"NinthStep", "train", "(II)I"⟩ : MethodName).cls = "NinthStep" ∧ (⟨"NinthStep", "train", "(II)I"⟩ : MethodName).cls ≠ "java/lang/invoke/MethodHandle" ∧ (⟨"NinthStep", "train", "(II)I"⟩ : MethodName).cls ≠ "java/lang/invoke/VarHandle" ∧ (parseMethodDescriptor (⟨"NinthStep", "train", "(II)I"⟩ : MethodName).desc).map (fun d => d.parameters.length) = some 2 := by decide +kernel
def g_N_countCrowds_51 (kh23 : ns_St → Nat → Int32 → Option (Unit × ns_St)) : Nat → ns_St → Nat → Int32 → Int64 → Int32 → Option (Unit × ns_St)
  | 0, _, _, _, _, _ => none
  | f + 1, σ, a0, x1, x2, x4 => ite2 ((61 : Int32) ≤ x4) (bnd (x1 + 1) fun z28 => kh23 σ a0 z28) (drf (σ.2.2 a0 9) fun b29 => grd (ns_kd b29 = 10) <| grd (ns_in x4 (ns_ln b29)) <| cl2 (g_N_isIn σ x2 x4) fun r32 σ31 => ite2 (r32 = 0) (grd (ns_in x4 (ns_ln b29)) <| bnd (ns_pI σ31 b29 (ns_ix x4) ((σ.1 b29 (ns_ix x4)) + (0 : Int32))) fun σ35 => bnd (x4 + 1) fun z36 => (g_N_countCrowds_51 kh23 f) σ35 a0 x1 x2 z36) (grd (ns_in x4 (ns_ln b29)) <| bnd (ns_pI σ31 b29 (ns_ix x4) ((σ.1 b29 (ns_ix x4)) + (1 : Int32))) fun σ38 => bnd (x4 + 1) fun z39 => (g_N_countCrowds_51 kh23 f) σ38 a0 x1 x2 z39))
def g_N_countCrowds_23  : Nat → ns_St → Nat → Int32 → Option (Unit × ns_St)
  | 0, _, _, _ => none
  | f + 1, σ, a0, x1 => drf (σ.2.2 a0 0) fun b40 => grd (ns_kd b40 = 7) <| ite2 ((σ.1 b40 2) ≤ x1) (some ((), σ)) (drf (σ.2.2 a0 0) fun b42 => grd (ns_kd b42 = 7) <| drf (σ.2.2 b42 1) fun b43 => grd (ns_kd b43 = 12) <| grd (ns_in x1 (ns_ln b43)) <| drf (σ.2.2 b43 (ns_ix x1)) fun b45 => grd (ns_kd b45 = 2) <| cl2 (g_N_stopsOf σ a0 b45) fun r47 σ46 => g_N_countCrowds_51 (g_N_countCrowds_23 f) ns_F σ46 a0 x1 r47 (0 : Int32))
def g_N_countCrowds_2  : Nat → ns_St → Nat → Int32 → Option (Unit × ns_St)
  | 0, _, _, _ => none
  | f + 1, σ, a0, x1 => ite2 ((61 : Int32) ≤ x1) (g_N_countCrowds_23 ns_F σ a0 (0 : Int32)) (drf (σ.2.2 a0 9) fun b49 => grd (ns_kd b49 = 10) <| grd (ns_in x1 (ns_ln b49)) <| bnd (ns_pI σ b49 (ns_ix x1) (0 : Int32)) fun σ51 => bnd (x1 + 1) fun z52 => (g_N_countCrowds_2 f) σ51 a0 z52)
def g_N_countCrowds (σ : ns_St) (a0 : Nat) : Option (Unit × ns_St) := grd (ns_kd a0 = 8) <| g_N_countCrowds_2 ns_F σ a0 (0 : Int32)
theorem t_N_countCrowds_51 (G : ns_G) (l : Launch) {p : Program} {e : Env} {s : State} {m : MethodId} {args : Array Value} {below : List Frame} {meth : Method} {c : Code} (C : ns_Cx G p s m args meth c prog_1_method_61_code "NinthStep" 5) (hr : meth.sig.returnType = none) {r : Unit} {σ' : ns_St} {kh23 : ns_St → Nat → Int32 → Option (Unit × ns_St)} (hkh23 : ∀ (σ : ns_St) (a0 : Nat) (x1 : Int32), ns_kd a0 = 8 → kh23 σ a0 x1 = some (r, σ') → VV G p l e { frames := 4, cells := 0, slots := 0, locals := 93 } s m args below meth c 5 0 0 (MQ below (ns_Qc G none ns_N σ') args s 0 0 (ns_A G)) ns_N σ 23 [(0, .ref (G.1 + a0)), (1, .int x1)] []) : ∀ (f : Nat) (σ : ns_St) (a0 : Nat) (x1 : Int32) (x2 : Int64) (x4 : Int32) (hk_a0 : ns_kd a0 = 8), g_N_countCrowds_51 kh23 f σ a0 x1 x2 x4 = some (r, σ') → VV G p l e { frames := 4, cells := 0, slots := 0, locals := 93 } s m args below meth c 5 0 0 (MQ below (ns_Qc G none ns_N σ') args s 0 0 (ns_A G)) ns_N σ 51 [(0, .ref (G.1 + a0)), (1, .int x1), (2, .long x2), (4, .int x4)] [] := by
  intro f
  induction f with
  | zero =>
    intro σ a0 x1 x2 x4 hk_a0 hf
    cases hf
  | succ f ih =>
    intro σ a0 x1 x2 x4 hk_a0 hf
    rw [g_N_countCrowds_51] at hf
    refine v_iload C 4 3 rfl 53 rfl (by decide +kernel) ?_
    refine v_bipush C (61) (61) (by decide) 55 rfl (by decide +kernel) ?_
    refine v_icmp_ge C 88 58 rfl (by decide +kernel) (fun h27 => ?_) (fun h27 => ?_)
    · have hf := ite2_t hf h27
      obtain ⟨z28, hz28, hf⟩ := bnd_e hf
      refine v_iinc C 1 (1) 1 z28 rfl (by rw [hz28]; rfl) [(1, .int z28), (0, .ref (G.1 + a0)), (2, .long x2), (4, .int x4)] (by decide) rfl 91 rfl (by decide +kernel) ?_
      refine v_goto C 23 (by decide +kernel) ?_
      refine v_sub [1, 0] rfl ?_
      exact hkh23 σ a0 z28 hk_a0 hf
    · have hf := ite2_f hf h27
      refine v_aload_n C 0 0 rfl 59 rfl (by decide +kernel) ?_
      obtain ⟨b29, hb29, hf⟩ := drf_e hf
      obtain ⟨hk_b29, hf⟩ := grd_e hf
      refine v_getR C 8 9 hb29 rfl nin_8 (ns_kd_lt hk_a0 (by decide)) hk_a0 (by decide) (by decide) rfl 63 tw_296 rfl 62 rfl (by decide +kernel) ?_
      refine v_iload C 4 3 rfl 64 rfl (by decide +kernel) ?_
      refine v_dup2_11 C rfl rfl 65 rfl (by decide +kernel) ?_
      obtain ⟨hi30, hf⟩ := grd_e hf
      refine v_iald C (ns_kd_lt hk_b29 (by decide)) hk_b29 hi30 66 rfl (by decide +kernel) ?_
      refine v_lload_n C 2 2 rfl 67 rfl (by decide +kernel) ?_
      refine v_iload C 4 3 rfl 69 rfl (by decide +kernel) ?_
      obtain ⟨r32, σ31, hcr32, hf⟩ := cl2_e hf
      refine v_cS C [.long x2, .int x4] [.int (σ.1 b29 (ns_ix x4)), .int x4, .ref (G.1 + b29)] (c_N_isIn G l σ x2 x4 hcr32) 160 2 tw_455 tw_460 tw_454 tw_1 hd_N_isIn rfl ⟨(Nat.le_of_ble_eq_true rfl), (Nat.le_of_ble_eq_true rfl)⟩ ⟨(Nat.le_of_ble_eq_true rfl), (Nat.le_of_ble_eq_true rfl)⟩ (Nat.le_of_ble_eq_true rfl) rfl 72 rfl (by decide +kernel) [.int r32, .int (σ.1 b29 (ns_ix x4)), .int x4, .ref (G.1 + b29)] rfl ?_
      refine v_if_eq C 79 75 rfl (by decide +kernel) (fun h33 => ?_) (fun h33 => ?_)
      · have hf := ite2_t hf h33
        refine v_iconst C (0) (0) (by decide) 80 rfl (by decide +kernel) ?_
        refine v_iadd C 81 rfl (by decide +kernel) ?_
        obtain ⟨hi34, hf⟩ := grd_e hf
        obtain ⟨σ35, hσ35, hf⟩ := bnd_e hf
        refine v_iast C hσ35 (ns_kd_lt hk_b29 (by decide)) hk_b29 hi34 82 rfl (by decide +kernel) ?_
        obtain ⟨z36, hz36, hf⟩ := bnd_e hf
        refine v_iinc C 4 (1) 3 z36 rfl (by rw [hz36]; rfl) [(4, .int z36), (0, .ref (G.1 + a0)), (1, .int x1), (2, .long x2)] (by decide) rfl 85 rfl (by decide +kernel) ?_
        refine v_goto C 51 (by decide +kernel) ?_
        refine v_sub [1, 2, 3, 0] rfl ?_
        exact ih σ35 a0 x1 x2 z36 hk_a0 hf
      · have hf := ite2_f hf h33
        refine v_iconst C (1) (1) (by decide) 76 rfl (by decide +kernel) ?_
        refine v_goto C 80 (by decide +kernel) ?_
        refine v_iadd C 81 rfl (by decide +kernel) ?_
        obtain ⟨hi37, hf⟩ := grd_e hf
        obtain ⟨σ38, hσ38, hf⟩ := bnd_e hf
        refine v_iast C hσ38 (ns_kd_lt hk_b29 (by decide)) hk_b29 hi37 82 rfl (by decide +kernel) ?_
        obtain ⟨z39, hz39, hf⟩ := bnd_e hf
        refine v_iinc C 4 (1) 3 z39 rfl (by rw [hz39]; rfl) [(4, .int z39), (0, .ref (G.1 + a0)), (1, .int x1), (2, .long x2)] (by decide) rfl 85 rfl (by decide +kernel) ?_
        refine v_goto C 51 (by decide +kernel) ?_
        refine v_sub [1, 2, 3, 0] rfl ?_
        exact ih σ38 a0 x1 x2 z39 hk_a0 hf
theorem t_N_countCrowds_23 (G : ns_G) (l : Launch) {p : Program} {e : Env} {s : State} {m : MethodId} {args : Array Value} {below : List Frame} {meth : Method} {c : Code} (C : ns_Cx G p s m args meth c prog_1_method_61_code "NinthStep" 5) (hr : meth.sig.returnType = none) {r : Unit} {σ' : ns_St}  : ∀ (f : Nat) (σ : ns_St) (a0 : Nat) (x1 : Int32) (hk_a0 : ns_kd a0 = 8), g_N_countCrowds_23 f σ a0 x1 = some (r, σ') → VV G p l e { frames := 4, cells := 0, slots := 0, locals := 93 } s m args below meth c 5 0 0 (MQ below (ns_Qc G none ns_N σ') args s 0 0 (ns_A G)) ns_N σ 23 [(0, .ref (G.1 + a0)), (1, .int x1)] [] := by
  intro f
  induction f with
  | zero =>
    intro σ a0 x1 hk_a0 hf
    cases hf
  | succ f ih =>
    intro σ a0 x1 hk_a0 hf
    rw [g_N_countCrowds_23] at hf
    refine v_iload_n C 1 1 rfl 24 rfl (by decide +kernel) ?_
    refine v_aload_n C 0 0 rfl 25 rfl (by decide +kernel) ?_
    obtain ⟨b40, hb40, hf⟩ := drf_e hf
    obtain ⟨hk_b40, hf⟩ := grd_e hf
    refine v_getR C 8 0 hb40 rfl nin_8 (ns_kd_lt hk_a0 (by decide)) hk_a0 (by decide) (by decide) rfl 12 tw_287 rfl 28 rfl (by decide +kernel) ?_
    refine v_getIN C 7 2 rfl nin_7 (ns_kd_lt hk_b40 (by decide)) hk_b40 (by decide) (by decide) rfl 135 tw_135 rfl 31 rfl (by decide +kernel) ?_
    refine v_icmp_ge C 94 34 rfl (by decide +kernel) (fun h41 => ?_) (fun h41 => ?_)
    · have hf := ite2_t hf h41
      cases hf
      exact v_vret C hr (by decide +kernel)
    · have hf := ite2_f hf h41
      refine v_aload_n C 0 0 rfl 35 rfl (by decide +kernel) ?_
      refine v_aload_n C 0 0 rfl 36 rfl (by decide +kernel) ?_
      obtain ⟨b42, hb42, hf⟩ := drf_e hf
      obtain ⟨hk_b42, hf⟩ := grd_e hf
      refine v_getR C 8 0 hb42 rfl nin_8 (ns_kd_lt hk_a0 (by decide)) hk_a0 (by decide) (by decide) rfl 12 tw_287 rfl 39 rfl (by decide +kernel) ?_
      obtain ⟨b43, hb43, hf⟩ := drf_e hf
      obtain ⟨hk_b43, hf⟩ := grd_e hf
      refine v_getRN C 7 1 hb43 rfl nin_7 (ns_kd_lt hk_b42 (by decide)) hk_b42 (by decide) (by decide) rfl 266 tw_131 rfl 42 rfl (by decide +kernel) ?_
      refine v_iload_n C 1 1 rfl 43 rfl (by decide +kernel) ?_
      obtain ⟨hi44, hf⟩ := grd_e hf
      obtain ⟨b45, hb45, hf⟩ := drf_e hf
      obtain ⟨hk_b45, hf⟩ := grd_e hf
      refine v_aald C 12 (by decide) (ns_kd_lt hk_b43 (by decide)) hk_b43 hi44 hb45 44 rfl (by decide +kernel) ?_
      obtain ⟨r47, σ46, hcr47, hf⟩ := cl2_e hf
      refine v_cV C 8 rfl (ns_kd_lt hk_a0 (by decide)) hk_a0 (by decide) [.ref (G.1 + b45)] [] (c_N_stopsOf G l σ a0 b45 hcr47) 209 1 tw_643 tw_640 tw_642 ts_29 tw_1 hd_N_stopsOf rfl ⟨(Nat.le_of_ble_eq_true rfl), (Nat.le_of_ble_eq_true rfl)⟩ ⟨(Nat.le_of_ble_eq_true rfl), (Nat.le_of_ble_eq_true rfl)⟩ (Nat.le_of_ble_eq_true rfl) rfl 47 rfl (by decide +kernel) [.long r47] rfl ?_
      refine v_lstore_n C 2 [(2, .long r47), (0, .ref (G.1 + a0)), (1, .int x1)] (by decide) rfl 48 rfl (by decide +kernel) ?_
      refine v_iconst C (0) (0) (by decide) 49 rfl (by decide +kernel) ?_
      refine v_istore C 4 [(4, .int (0 : Int32)), (2, .long r47), (0, .ref (G.1 + a0)), (1, .int x1)] (by decide) rfl 51 rfl (by decide +kernel) ?_
      refine v_sub [2, 3, 1, 0] rfl ?_
      exact t_N_countCrowds_51 G l C hr ih ns_F σ46 a0 x1 r47 (0 : Int32) hk_a0 hf
theorem t_N_countCrowds_2 (G : ns_G) (l : Launch) {p : Program} {e : Env} {s : State} {m : MethodId} {args : Array Value} {below : List Frame} {meth : Method} {c : Code} (C : ns_Cx G p s m args meth c prog_1_method_61_code "NinthStep" 5) (hr : meth.sig.returnType = none) {r : Unit} {σ' : ns_St}  : ∀ (f : Nat) (σ : ns_St) (a0 : Nat) (x1 : Int32) (hk_a0 : ns_kd a0 = 8), g_N_countCrowds_2 f σ a0 x1 = some (r, σ') → VV G p l e { frames := 4, cells := 0, slots := 0, locals := 93 } s m args below meth c 5 0 0 (MQ below (ns_Qc G none ns_N σ') args s 0 0 (ns_A G)) ns_N σ 2 [(0, .ref (G.1 + a0)), (1, .int x1)] [] := by
  intro f
  induction f with
  | zero =>
    intro σ a0 x1 hk_a0 hf
    cases hf
  | succ f ih =>
    intro σ a0 x1 hk_a0 hf
    rw [g_N_countCrowds_2] at hf
    refine v_iload_n C 1 1 rfl 3 rfl (by decide +kernel) ?_
    refine v_bipush C (61) (61) (by decide) 5 rfl (by decide +kernel) ?_
    refine v_icmp_ge C 21 8 rfl (by decide +kernel) (fun h48 => ?_) (fun h48 => ?_)
    · have hf := ite2_t hf h48
      refine v_iconst C (0) (0) (by decide) 22 rfl (by decide +kernel) ?_
      refine v_istore_n C 1 [(1, .int (0 : Int32)), (0, .ref (G.1 + a0))] (by decide) rfl 23 rfl (by decide +kernel) ?_
      refine v_sub [1, 0] rfl ?_
      exact t_N_countCrowds_23 G l C hr  ns_F σ a0 (0 : Int32) hk_a0 hf
    · have hf := ite2_f hf h48
      refine v_aload_n C 0 0 rfl 9 rfl (by decide +kernel) ?_
      obtain ⟨b49, hb49, hf⟩ := drf_e hf
      obtain ⟨hk_b49, hf⟩ := grd_e hf
      refine v_getR C 8 9 hb49 rfl nin_8 (ns_kd_lt hk_a0 (by decide)) hk_a0 (by decide) (by decide) rfl 63 tw_296 rfl 12 rfl (by decide +kernel) ?_
      refine v_iload_n C 1 1 rfl 13 rfl (by decide +kernel) ?_
      refine v_iconst C (0) (0) (by decide) 14 rfl (by decide +kernel) ?_
      obtain ⟨hi50, hf⟩ := grd_e hf
      obtain ⟨σ51, hσ51, hf⟩ := bnd_e hf
      refine v_iast C hσ51 (ns_kd_lt hk_b49 (by decide)) hk_b49 hi50 15 rfl (by decide +kernel) ?_
      obtain ⟨z52, hz52, hf⟩ := bnd_e hf
      refine v_iinc C 1 (1) 1 z52 rfl (by rw [hz52]; rfl) [(1, .int z52), (0, .ref (G.1 + a0))] (by decide) rfl 18 rfl (by decide +kernel) ?_
      refine v_goto C 2 (by decide +kernel) ?_
      refine v_sub [1, 0] rfl ?_
      exact ih σ51 a0 z52 hk_a0 hf
theorem c_N_countCrowds (G : ns_G) (l : Launch) (σ : ns_St) (a0 : Nat) {r : Unit} {σ' : ns_St} (hf : g_N_countCrowds σ a0 = some (r, σ')) : ns_ok G l ⟨"NinthStep", "countCrowds", "()V"⟩ prog_1_method_61_code 5 none 4 93 0 0 [.ref (G.1 + a0)] ns_N σ none ns_N σ' := by
  refine v_open (by decide) (Nat.le_of_ble_eq_true rfl) rfl ?_
  intro p e s m below meth c C hr _
  have C : ns_Cx G p s m _ meth c prog_1_method_61_code "NinthStep" 5 := C
  unfold g_N_countCrowds at hf
  obtain ⟨hk_a0, hf⟩ := grd_e hf
  refine v_iconst C (0) (0) (by decide) 1 rfl (by decide +kernel) ?_
  refine v_istore_n C 1 [(1, .int (0 : Int32)), (0, .ref (G.1 + a0))] (by decide) rfl 2 rfl (by decide +kernel) ?_
  refine v_sub [1, 0] rfl ?_
  exact t_N_countCrowds_2 G l C hr  ns_F σ a0 (0 : Int32) hk_a0 hf
theorem hd_N_countCrowds : (⟨"NinthStep", "countCrowds", "()V"⟩ : MethodName).cls = "NinthStep" ∧ (⟨"NinthStep", "countCrowds", "()V"⟩ : MethodName).cls ≠ "java/lang/invoke/MethodHandle" ∧ (⟨"NinthStep", "countCrowds", "()V"⟩ : MethodName).cls ≠ "java/lang/invoke/VarHandle" ∧ (parseMethodDescriptor (⟨"NinthStep", "countCrowds", "()V"⟩ : MethodName).desc).map (fun d => d.parameters.length) = some 0 := by decide +kernel
def g_N_crowd (σ : ns_St) (a0 : Nat) (x1 : Int32) : Option (Int32 × ns_St) := grd (ns_kd a0 = 8) <| cl2 (g_N_isPlace σ a0 x1) fun r11 σ10 => ite2 (r11 = 0) (cl2 (g_N_refuse σ10 a0 (-2 : Int32)) fun r18 σ17 => some (r18, σ17)) (cl2 (g_N_countCrowds σ10 a0) fun r14 σ13 => drf (σ13.2.2 a0 9) fun b15 => grd (ns_kd b15 = 10) <| grd (ns_in x1 (ns_ln b15)) <| some ((σ13.1 b15 (ns_ix x1)), σ13))
theorem c_N_crowd (G : ns_G) (l : Launch) (σ : ns_St) (a0 : Nat) (x1 : Int32) {r : Int32} {σ' : ns_St} (hf : g_N_crowd σ a0 x1 = some (r, σ')) : ns_ok G l ⟨"NinthStep", "crowd", "(I)I"⟩ prog_1_method_31_code 2 (some .int) 5 117 0 0 [.ref (G.1 + a0), .int x1] ns_N σ (some (.int r)) ns_N σ' := by
  refine v_open (by decide) (Nat.le_of_ble_eq_true rfl) rfl ?_
  intro p e s m below meth c C hr _
  have C : ns_Cx G p s m _ meth c prog_1_method_31_code "NinthStep" 2 := C
  unfold g_N_crowd at hf
  obtain ⟨hk_a0, hf⟩ := grd_e hf
  refine v_aload_n C 0 0 rfl 1 rfl (by decide +kernel) ?_
  refine v_iload_n C 1 1 rfl 2 rfl (by decide +kernel) ?_
  obtain ⟨r11, σ10, hcr11, hf⟩ := cl2_e hf
  refine v_cV C 8 rfl (ns_kd_lt hk_a0 (by decide)) hk_a0 (by decide) [.int x1] [] (c_N_isPlace G l σ a0 x1 hcr11) 150 1 tw_448 tw_445 tw_447 ts_10 tw_1 hd_N_isPlace rfl ⟨(Nat.le_of_ble_eq_true rfl), (Nat.le_of_ble_eq_true rfl)⟩ ⟨(Nat.le_of_ble_eq_true rfl), (Nat.le_of_ble_eq_true rfl)⟩ (Nat.le_of_ble_eq_true rfl) rfl 5 rfl (by decide +kernel) [.int r11] rfl ?_
  refine v_if_ne C 15 8 rfl (by decide +kernel) (fun h12 => ?_) (fun h12 => ?_)
  · have hf := ite2_f hf h12
    refine v_aload_n C 0 0 rfl 16 rfl (by decide +kernel) ?_
    obtain ⟨r14, σ13, hcr14, hf⟩ := cl2_e hf
    refine v_cV C 8 rfl (ns_kd_lt hk_a0 (by decide)) hk_a0 (by decide) [] [] (c_N_countCrowds G l σ10 a0 hcr14) 277 0 tw_788 tw_785 tw_787 ts_49 tw_1 hd_N_countCrowds rfl ⟨(Nat.le_of_ble_eq_true rfl), (Nat.le_of_ble_eq_true rfl)⟩ ⟨(Nat.le_of_ble_eq_true rfl), (Nat.le_of_ble_eq_true rfl)⟩ (Nat.le_of_ble_eq_true rfl) rfl 19 rfl (by decide +kernel) [] rfl ?_
    refine v_aload_n C 0 0 rfl 20 rfl (by decide +kernel) ?_
    obtain ⟨b15, hb15, hf⟩ := drf_e hf
    obtain ⟨hk_b15, hf⟩ := grd_e hf
    refine v_getR C 8 9 hb15 rfl nin_8 (ns_kd_lt hk_a0 (by decide)) hk_a0 (by decide) (by decide) rfl 63 tw_296 rfl 23 rfl (by decide +kernel) ?_
    refine v_iload_n C 1 1 rfl 24 rfl (by decide +kernel) ?_
    obtain ⟨hi16, hf⟩ := grd_e hf
    refine v_iald C (ns_kd_lt hk_b15 (by decide)) hk_b15 hi16 25 rfl (by decide +kernel) ?_
    cases hf
    exact v_iret C hr (by decide +kernel)
  · have hf := ite2_t hf h12
    refine v_aload_n C 0 0 rfl 9 rfl (by decide +kernel) ?_
    refine v_bipush C (-2) (-2) (by decide) 11 rfl (by decide +kernel) ?_
    obtain ⟨r18, σ17, hcr18, hf⟩ := cl2_e hf
    refine v_cV C 8 rfl (ns_kd_lt hk_a0 (by decide)) hk_a0 (by decide) [.int (-2 : Int32)] [] (c_N_refuse G l σ10 a0 (-2 : Int32) hcr18) 79 1 tw_338 tw_335 tw_337 ts_1 tw_1 hd_N_refuse rfl ⟨(Nat.le_of_ble_eq_true rfl), (Nat.le_of_ble_eq_true rfl)⟩ ⟨(Nat.le_of_ble_eq_true rfl), (Nat.le_of_ble_eq_true rfl)⟩ (Nat.le_of_ble_eq_true rfl) rfl 14 rfl (by decide +kernel) [.int r18] rfl ?_
    cases hf
    exact v_iret C hr (by decide +kernel)
theorem hd_N_crowd : (⟨"NinthStep", "crowd", "(I)I"⟩ : MethodName).cls = "NinthStep" ∧ (⟨"NinthStep", "crowd", "(I)I"⟩ : MethodName).cls ≠ "java/lang/invoke/MethodHandle" ∧ (⟨"NinthStep", "crowd", "(I)I"⟩ : MethodName).cls ≠ "java/lang/invoke/VarHandle" ∧ (parseMethodDescriptor (⟨"NinthStep", "crowd", "(I)I"⟩ : MethodName).desc).map (fun d => d.parameters.length) = some 1 := by decide +kernel
def g_N_fullestPlace_6  : Nat → ns_St → Nat → Int32 → Int32 → Int32 → Option (Int32 × ns_St)
  | 0, _, _, _, _, _ => none
  | f + 1, σ, a0, x1, x2, x3 => ite2 ((61 : Int32) ≤ x3) (some (x1, σ)) (drf (σ.2.2 a0 9) fun b11 => grd (ns_kd b11 = 10) <| grd (ns_in x3 (ns_ln b11)) <| ite2 ((σ.1 b11 (ns_ix x3)) ≤ x2) (bnd (x3 + 1) fun z14 => (g_N_fullestPlace_6 f) σ a0 x1 x2 z14) (drf (σ.2.2 a0 9) fun b15 => grd (ns_kd b15 = 10) <| grd (ns_in x3 (ns_ln b15)) <| bnd (σ.1 b15 (ns_ix x3)) fun z17 => bnd (x3 + 1) fun z18 => (g_N_fullestPlace_6 f) σ a0 x3 z17 z18))
def g_N_fullestPlace (σ : ns_St) (a0 : Nat) : Option (Int32 × ns_St) := grd (ns_kd a0 = 8) <| g_N_fullestPlace_6 ns_F σ a0 (-1 : Int32) (0 : Int32) (0 : Int32)
theorem t_N_fullestPlace_6 (G : ns_G) (l : Launch) {p : Program} {e : Env} {s : State} {m : MethodId} {args : Array Value} {below : List Frame} {meth : Method} {c : Code} (C : ns_Cx G p s m args meth c prog_1_method_62_code "NinthStep" 4) (hr : meth.sig.returnType = (some .int)) {r : Int32} {σ' : ns_St}  : ∀ (f : Nat) (σ : ns_St) (a0 : Nat) (x1 : Int32) (x2 : Int32) (x3 : Int32) (hk_a0 : ns_kd a0 = 8), g_N_fullestPlace_6 f σ a0 x1 x2 x3 = some (r, σ') → VV G p l e { frames := 0, cells := 0, slots := 0, locals := 0 } s m args below meth c 4 0 0 (MQ below (ns_Qc G (some (.int r)) ns_N σ') args s 0 0 (ns_A G)) ns_N σ 6 [(0, .ref (G.1 + a0)), (1, .int x1), (2, .int x2), (3, .int x3)] [] := by
  intro f
  induction f with
  | zero =>
    intro σ a0 x1 x2 x3 hk_a0 hf
    cases hf
  | succ f ih =>
    intro σ a0 x1 x2 x3 hk_a0 hf
    rw [g_N_fullestPlace_6] at hf
    refine v_iload_n C 3 3 rfl 7 rfl (by decide +kernel) ?_
    refine v_bipush C (61) (61) (by decide) 9 rfl (by decide +kernel) ?_
    refine v_icmp_ge C 37 12 rfl (by decide +kernel) (fun h10 => ?_) (fun h10 => ?_)
    · have hf := ite2_t hf h10
      refine v_iload_n C 1 1 rfl 38 rfl (by decide +kernel) ?_
      cases hf
      exact v_iret C hr (by decide +kernel)
    · have hf := ite2_f hf h10
      refine v_aload_n C 0 0 rfl 13 rfl (by decide +kernel) ?_
      obtain ⟨b11, hb11, hf⟩ := drf_e hf
      obtain ⟨hk_b11, hf⟩ := grd_e hf
      refine v_getR C 8 9 hb11 rfl nin_8 (ns_kd_lt hk_a0 (by decide)) hk_a0 (by decide) (by decide) rfl 63 tw_296 rfl 16 rfl (by decide +kernel) ?_
      refine v_iload_n C 3 3 rfl 17 rfl (by decide +kernel) ?_
      obtain ⟨hi12, hf⟩ := grd_e hf
      refine v_iald C (ns_kd_lt hk_b11 (by decide)) hk_b11 hi12 18 rfl (by decide +kernel) ?_
      refine v_iload_n C 2 2 rfl 19 rfl (by decide +kernel) ?_
      refine v_icmp_le C 31 22 rfl (by decide +kernel) (fun h13 => ?_) (fun h13 => ?_)
      · have hf := ite2_t hf h13
        obtain ⟨z14, hz14, hf⟩ := bnd_e hf
        refine v_iinc C 3 (1) 3 z14 rfl (by rw [hz14]; rfl) [(3, .int z14), (0, .ref (G.1 + a0)), (1, .int x1), (2, .int x2)] (by decide) rfl 34 rfl (by decide +kernel) ?_
        refine v_goto C 6 (by decide +kernel) ?_
        refine v_sub [1, 2, 3, 0] rfl ?_
        exact ih σ a0 x1 x2 z14 hk_a0 hf
      · have hf := ite2_f hf h13
        refine v_aload_n C 0 0 rfl 23 rfl (by decide +kernel) ?_
        obtain ⟨b15, hb15, hf⟩ := drf_e hf
        obtain ⟨hk_b15, hf⟩ := grd_e hf
        refine v_getR C 8 9 hb15 rfl nin_8 (ns_kd_lt hk_a0 (by decide)) hk_a0 (by decide) (by decide) rfl 63 tw_296 rfl 26 rfl (by decide +kernel) ?_
        refine v_iload_n C 3 3 rfl 27 rfl (by decide +kernel) ?_
        obtain ⟨hi16, hf⟩ := grd_e hf
        refine v_iald C (ns_kd_lt hk_b15 (by decide)) hk_b15 hi16 28 rfl (by decide +kernel) ?_
        obtain ⟨z17, hz17, hf⟩ := bnd_e hf
        refine v_nmI hz17 ?_
        refine v_istore_n C 2 [(2, .int z17), (0, .ref (G.1 + a0)), (1, .int x1), (3, .int x3)] (by decide) rfl 29 rfl (by decide +kernel) ?_
        refine v_iload_n C 3 3 rfl 30 rfl (by decide +kernel) ?_
        refine v_istore_n C 1 [(1, .int x3), (2, .int z17), (0, .ref (G.1 + a0)), (3, .int x3)] (by decide) rfl 31 rfl (by decide +kernel) ?_
        obtain ⟨z18, hz18, hf⟩ := bnd_e hf
        refine v_iinc C 3 (1) 3 z18 rfl (by rw [hz18]; rfl) [(3, .int z18), (1, .int x3), (2, .int z17), (0, .ref (G.1 + a0))] (by decide) rfl 34 rfl (by decide +kernel) ?_
        refine v_goto C 6 (by decide +kernel) ?_
        refine v_sub [3, 1, 2, 0] rfl ?_
        exact ih σ a0 x3 z17 z18 hk_a0 hf
theorem c_N_fullestPlace (G : ns_G) (l : Launch) (σ : ns_St) (a0 : Nat) {r : Int32} {σ' : ns_St} (hf : g_N_fullestPlace σ a0 = some (r, σ')) : ns_ok G l ⟨"NinthStep", "fullestPlace", "()I"⟩ prog_1_method_62_code 4 (some .int) 0 0 0 0 [.ref (G.1 + a0)] ns_N σ (some (.int r)) ns_N σ' := by
  refine v_open (by decide) (Nat.le_of_ble_eq_true rfl) rfl ?_
  intro p e s m below meth c C hr _
  have C : ns_Cx G p s m _ meth c prog_1_method_62_code "NinthStep" 4 := C
  unfold g_N_fullestPlace at hf
  obtain ⟨hk_a0, hf⟩ := grd_e hf
  refine v_iconst C (-1) (-1) (by decide) 1 rfl (by decide +kernel) ?_
  refine v_istore_n C 1 [(1, .int (-1 : Int32)), (0, .ref (G.1 + a0))] (by decide) rfl 2 rfl (by decide +kernel) ?_
  refine v_iconst C (0) (0) (by decide) 3 rfl (by decide +kernel) ?_
  refine v_istore_n C 2 [(2, .int (0 : Int32)), (1, .int (-1 : Int32)), (0, .ref (G.1 + a0))] (by decide) rfl 4 rfl (by decide +kernel) ?_
  refine v_iconst C (0) (0) (by decide) 5 rfl (by decide +kernel) ?_
  refine v_istore_n C 3 [(3, .int (0 : Int32)), (2, .int (0 : Int32)), (1, .int (-1 : Int32)), (0, .ref (G.1 + a0))] (by decide) rfl 6 rfl (by decide +kernel) ?_
  refine v_sub [3, 2, 1, 0] rfl ?_
  exact t_N_fullestPlace_6 G l C hr  ns_F σ a0 (-1 : Int32) (0 : Int32) (0 : Int32) hk_a0 hf
theorem hd_N_fullestPlace : (⟨"NinthStep", "fullestPlace", "()I"⟩ : MethodName).cls = "NinthStep" ∧ (⟨"NinthStep", "fullestPlace", "()I"⟩ : MethodName).cls ≠ "java/lang/invoke/MethodHandle" ∧ (⟨"NinthStep", "fullestPlace", "()I"⟩ : MethodName).cls ≠ "java/lang/invoke/VarHandle" ∧ (parseMethodDescriptor (⟨"NinthStep", "fullestPlace", "()I"⟩ : MethodName).desc).map (fun d => d.parameters.length) = some 0 := by decide +kernel
def g_N_best_25  : Nat → ns_St → Nat → Int32 → Int32 → Int32 → Option (Int32 × ns_St)
  | 0, _, _, _, _, _ => none
  | f + 1, σ, a0, x1, x2, x3 => ite2 (x1 < x3) (some (x2, σ)) (cl2 (g_N_fullestPlace σ a0) fun r20 σ19 => ite2 (r20 = (-1 : Int32)) (cl2 (g_N_refuse σ19 a0 (-5 : Int32)) fun r27 σ26 => some (r27, σ26)) (drf (σ19.2.2 a0 9) fun b22 => grd (ns_kd b22 = 10) <| grd (ns_in r20 (ns_ln b22)) <| bnd (ns_pI σ19 b22 (ns_ix r20) (0 : Int32)) fun σ24 => bnd (x3 + 1) fun z25 => (g_N_best_25 f) σ24 a0 x1 r20 z25))
def g_N_best (σ : ns_St) (a0 : Nat) (x1 : Int32) : Option (Int32 × ns_St) := grd (ns_kd a0 = 8) <| cl2 (g_N_isWithin σ x1 (0 : Int32) (9 : Int32)) fun r29 σ28 => ite2 (r29 = 0) (cl2 (g_N_refuse σ28 a0 (-2 : Int32)) fun r34 σ33 => some (r34, σ33)) (cl2 (g_N_countCrowds σ28 a0) fun r32 σ31 => g_N_best_25 ns_F σ31 a0 x1 (-1 : Int32) (0 : Int32))
theorem t_N_best_25 (G : ns_G) (l : Launch) {p : Program} {e : Env} {s : State} {m : MethodId} {args : Array Value} {below : List Frame} {meth : Method} {c : Code} (C : ns_Cx G p s m args meth c prog_1_method_32_code "NinthStep" 4) (hr : meth.sig.returnType = (some .int)) {r : Int32} {σ' : ns_St}  : ∀ (f : Nat) (σ : ns_St) (a0 : Nat) (x1 : Int32) (x2 : Int32) (x3 : Int32) (hk_a0 : ns_kd a0 = 8), g_N_best_25 f σ a0 x1 x2 x3 = some (r, σ') → VV G p l e { frames := 5, cells := 0, slots := 0, locals := 117 } s m args below meth c 4 0 0 (MQ below (ns_Qc G (some (.int r)) ns_N σ') args s 0 0 (ns_A G)) ns_N σ 25 [(0, .ref (G.1 + a0)), (1, .int x1), (2, .int x2), (3, .int x3)] [] := by
  intro f
  induction f with
  | zero =>
    intro σ a0 x1 x2 x3 hk_a0 hf
    cases hf
  | succ f ih =>
    intro σ a0 x1 x2 x3 hk_a0 hf
    rw [g_N_best_25] at hf
    refine v_iload_n C 3 3 rfl 26 rfl (by decide +kernel) ?_
    refine v_iload_n C 1 1 rfl 27 rfl (by decide +kernel) ?_
    refine v_icmp_gt C 60 30 rfl (by decide +kernel) (fun h18 => ?_) (fun h18 => ?_)
    · have hf := ite2_t hf h18
      refine v_iload_n C 2 2 rfl 61 rfl (by decide +kernel) ?_
      cases hf
      exact v_iret C hr (by decide +kernel)
    · have hf := ite2_f hf h18
      refine v_aload_n C 0 0 rfl 31 rfl (by decide +kernel) ?_
      obtain ⟨r20, σ19, hcr20, hf⟩ := cl2_e hf
      refine v_cV C 8 rfl (ns_kd_lt hk_a0 (by decide)) hk_a0 (by decide) [] [] (c_N_fullestPlace G l σ a0 hcr20) 280 0 tw_796 tw_793 tw_795 ts_50 tw_1 hd_N_fullestPlace rfl ⟨(Nat.le_of_ble_eq_true rfl), (Nat.le_of_ble_eq_true rfl)⟩ ⟨(Nat.le_of_ble_eq_true rfl), (Nat.le_of_ble_eq_true rfl)⟩ (Nat.le_of_ble_eq_true rfl) rfl 34 rfl (by decide +kernel) [.int r20] rfl ?_
      refine v_istore_n C 2 [(2, .int r20), (0, .ref (G.1 + a0)), (1, .int x1), (3, .int x3)] (by decide) rfl 35 rfl (by decide +kernel) ?_
      refine v_iload_n C 2 0 rfl 36 rfl (by decide +kernel) ?_
      refine v_iconst C (-1) (-1) (by decide) 37 rfl (by decide +kernel) ?_
      refine v_icmp_ne C 47 40 rfl (by decide +kernel) (fun h21 => ?_) (fun h21 => ?_)
      · have hf := ite2_f hf h21
        refine v_aload_n C 0 1 rfl 48 rfl (by decide +kernel) ?_
        obtain ⟨b22, hb22, hf⟩ := drf_e hf
        obtain ⟨hk_b22, hf⟩ := grd_e hf
        refine v_getR C 8 9 hb22 rfl nin_8 (ns_kd_lt hk_a0 (by decide)) hk_a0 (by decide) (by decide) rfl 63 tw_296 rfl 51 rfl (by decide +kernel) ?_
        refine v_iload_n C 2 0 rfl 52 rfl (by decide +kernel) ?_
        refine v_iconst C (0) (0) (by decide) 53 rfl (by decide +kernel) ?_
        obtain ⟨hi23, hf⟩ := grd_e hf
        obtain ⟨σ24, hσ24, hf⟩ := bnd_e hf
        refine v_iast C hσ24 (ns_kd_lt hk_b22 (by decide)) hk_b22 hi23 54 rfl (by decide +kernel) ?_
        obtain ⟨z25, hz25, hf⟩ := bnd_e hf
        refine v_iinc C 3 (1) 3 z25 rfl (by rw [hz25]; rfl) [(3, .int z25), (2, .int r20), (0, .ref (G.1 + a0)), (1, .int x1)] (by decide) rfl 57 rfl (by decide +kernel) ?_
        refine v_goto C 25 (by decide +kernel) ?_
        refine v_sub [2, 3, 1, 0] rfl ?_
        exact ih σ24 a0 x1 r20 z25 hk_a0 hf
      · have hf := ite2_t hf h21
        refine v_aload_n C 0 1 rfl 41 rfl (by decide +kernel) ?_
        refine v_bipush C (-5) (-5) (by decide) 43 rfl (by decide +kernel) ?_
        obtain ⟨r27, σ26, hcr27, hf⟩ := cl2_e hf
        refine v_cV C 8 rfl (ns_kd_lt hk_a0 (by decide)) hk_a0 (by decide) [.int (-5 : Int32)] [] (c_N_refuse G l σ19 a0 (-5 : Int32) hcr27) 79 1 tw_338 tw_335 tw_337 ts_1 tw_1 hd_N_refuse rfl ⟨(Nat.le_of_ble_eq_true rfl), (Nat.le_of_ble_eq_true rfl)⟩ ⟨(Nat.le_of_ble_eq_true rfl), (Nat.le_of_ble_eq_true rfl)⟩ (Nat.le_of_ble_eq_true rfl) rfl 46 rfl (by decide +kernel) [.int r27] rfl ?_
        cases hf
        exact v_iret C hr (by decide +kernel)
theorem c_N_best (G : ns_G) (l : Launch) (σ : ns_St) (a0 : Nat) (x1 : Int32) {r : Int32} {σ' : ns_St} (hf : g_N_best σ a0 x1 = some (r, σ')) : ns_ok G l ⟨"NinthStep", "best", "(I)I"⟩ prog_1_method_32_code 4 (some .int) 5 117 0 0 [.ref (G.1 + a0), .int x1] ns_N σ (some (.int r)) ns_N σ' := by
  refine v_open (by decide) (Nat.le_of_ble_eq_true rfl) rfl ?_
  intro p e s m below meth c C hr _
  have C : ns_Cx G p s m _ meth c prog_1_method_32_code "NinthStep" 4 := C
  unfold g_N_best at hf
  obtain ⟨hk_a0, hf⟩ := grd_e hf
  refine v_iload_n C 1 1 rfl 1 rfl (by decide +kernel) ?_
  refine v_iconst C (0) (0) (by decide) 2 rfl (by decide +kernel) ?_
  refine v_bipush C (9) (9) (by decide) 4 rfl (by decide +kernel) ?_
  obtain ⟨r29, σ28, hcr29, hf⟩ := cl2_e hf
  refine v_cS C [.int x1, .int (0 : Int32), .int (9 : Int32)] [] (c_N_isWithin G l σ x1 (0 : Int32) (9 : Int32) hcr29) 75 3 tw_334 tw_332 tw_333 tw_1 hd_N_isWithin rfl ⟨(Nat.le_of_ble_eq_true rfl), (Nat.le_of_ble_eq_true rfl)⟩ ⟨(Nat.le_of_ble_eq_true rfl), (Nat.le_of_ble_eq_true rfl)⟩ (Nat.le_of_ble_eq_true rfl) rfl 7 rfl (by decide +kernel) [.int r29] rfl ?_
  refine v_if_ne C 17 10 rfl (by decide +kernel) (fun h30 => ?_) (fun h30 => ?_)
  · have hf := ite2_f hf h30
    refine v_aload_n C 0 0 rfl 18 rfl (by decide +kernel) ?_
    obtain ⟨r32, σ31, hcr32, hf⟩ := cl2_e hf
    refine v_cV C 8 rfl (ns_kd_lt hk_a0 (by decide)) hk_a0 (by decide) [] [] (c_N_countCrowds G l σ28 a0 hcr32) 277 0 tw_788 tw_785 tw_787 ts_49 tw_1 hd_N_countCrowds rfl ⟨(Nat.le_of_ble_eq_true rfl), (Nat.le_of_ble_eq_true rfl)⟩ ⟨(Nat.le_of_ble_eq_true rfl), (Nat.le_of_ble_eq_true rfl)⟩ (Nat.le_of_ble_eq_true rfl) rfl 21 rfl (by decide +kernel) [] rfl ?_
    refine v_iconst C (-1) (-1) (by decide) 22 rfl (by decide +kernel) ?_
    refine v_istore_n C 2 [(2, .int (-1 : Int32)), (0, .ref (G.1 + a0)), (1, .int x1)] (by decide) rfl 23 rfl (by decide +kernel) ?_
    refine v_iconst C (0) (0) (by decide) 24 rfl (by decide +kernel) ?_
    refine v_istore_n C 3 [(3, .int (0 : Int32)), (2, .int (-1 : Int32)), (0, .ref (G.1 + a0)), (1, .int x1)] (by decide) rfl 25 rfl (by decide +kernel) ?_
    refine v_sub [2, 3, 1, 0] rfl ?_
    exact t_N_best_25 G l C hr  ns_F σ31 a0 x1 (-1 : Int32) (0 : Int32) hk_a0 hf
  · have hf := ite2_t hf h30
    refine v_aload_n C 0 0 rfl 11 rfl (by decide +kernel) ?_
    refine v_bipush C (-2) (-2) (by decide) 13 rfl (by decide +kernel) ?_
    obtain ⟨r34, σ33, hcr34, hf⟩ := cl2_e hf
    refine v_cV C 8 rfl (ns_kd_lt hk_a0 (by decide)) hk_a0 (by decide) [.int (-2 : Int32)] [] (c_N_refuse G l σ28 a0 (-2 : Int32) hcr34) 79 1 tw_338 tw_335 tw_337 ts_1 tw_1 hd_N_refuse rfl ⟨(Nat.le_of_ble_eq_true rfl), (Nat.le_of_ble_eq_true rfl)⟩ ⟨(Nat.le_of_ble_eq_true rfl), (Nat.le_of_ble_eq_true rfl)⟩ (Nat.le_of_ble_eq_true rfl) rfl 16 rfl (by decide +kernel) [.int r34] rfl ?_
    cases hf
    exact v_iret C hr (by decide +kernel)
theorem hd_N_best : (⟨"NinthStep", "best", "(I)I"⟩ : MethodName).cls = "NinthStep" ∧ (⟨"NinthStep", "best", "(I)I"⟩ : MethodName).cls ≠ "java/lang/invoke/MethodHandle" ∧ (⟨"NinthStep", "best", "(I)I"⟩ : MethodName).cls ≠ "java/lang/invoke/VarHandle" ∧ (parseMethodDescriptor (⟨"NinthStep", "best", "(I)I"⟩ : MethodName).desc).map (fun d => d.parameters.length) = some 1 := by decide +kernel
def g_StonePlan_fallsNext (σ : ns_St) (a0 : Nat) (a1 : Nat) (x2 : Int32) : Option (Int32 × ns_St) := grd (ns_kd a0 = 4) <| grd (ns_kd a1 = 2) <| drf (σ.2.2 a0 7) fun b9 => grd (ns_kd b9 = 1) <| cl2 (g_Mule_makeStep σ a1 b9 x2) fun r11 σ10 => ite2 (r11 = 0) (some ((0 : Int32), σ10)) (drf (σ10.2.2 a0 7) fun b13 => grd (ns_kd b13 = 1) <| cl2 (g_N_isIn σ10 (σ10.2.1 b13 3) (σ10.1 a1 2)) fun r15 σ14 => ite2 (r15 = 0) (some ((0 : Int32), σ14)) (some ((1 : Int32), σ14)))
theorem c_StonePlan_fallsNext (G : ns_G) (l : Launch) (σ : ns_St) (a0 : Nat) (a1 : Nat) (x2 : Int32) {r : Int32} {σ' : ns_St} (hf : g_StonePlan_fallsNext σ a0 a1 x2 = some (r, σ')) : ns_ok G l ⟨"NinthStep$StonePlan", "fallsNext", "(LNinthStep$Mule;I)Z"⟩ prog_6_method_12_code 3 (some .boolean) 2 45 0 0 [.ref (G.1 + a0), .ref (G.1 + a1), .int x2] ns_N σ (some (.int r)) ns_N σ' := by
  refine v_open (by decide) (Nat.le_of_ble_eq_true rfl) rfl ?_
  intro p e s m below meth c C hr _
  have C : ns_Cx G p s m _ meth c prog_6_method_12_code "NinthStep$StonePlan" 3 := C
  unfold g_StonePlan_fallsNext at hf
  obtain ⟨hk_a0, hf⟩ := grd_e hf
  obtain ⟨hk_a1, hf⟩ := grd_e hf
  refine v_aload_n C 1 1 rfl 1 rfl (by decide +kernel) ?_
  refine v_aload_n C 0 0 rfl 2 rfl (by decide +kernel) ?_
  obtain ⟨b9, hb9, hf⟩ := drf_e hf
  obtain ⟨hk_b9, hf⟩ := grd_e hf
  refine v_getR C 4 7 hb9 rfl nin_4 (ns_kd_lt hk_a0 (by decide)) hk_a0 (by decide) (by decide) rfl 44 tw_227 rfl 5 rfl (by decide +kernel) ?_
  refine v_iload_n C 2 2 rfl 6 rfl (by decide +kernel) ?_
  obtain ⟨r11, σ10, hcr11, hf⟩ := cl2_e hf
  refine v_cVN C 2 rfl (ns_kd_lt hk_a1 (by decide)) hk_a1 (by decide) [.ref (G.1 + b9), .int x2] [] (c_Mule_makeStep G l σ a1 b9 x2 hcr11) 144 2 tw_656 tw_814 tw_655 ts_32 tw_4 hd_Mule_makeStep rfl ⟨(Nat.le_of_ble_eq_true rfl), (Nat.le_of_ble_eq_true rfl)⟩ ⟨(Nat.le_of_ble_eq_true rfl), (Nat.le_of_ble_eq_true rfl)⟩ (Nat.le_of_ble_eq_true rfl) rfl 9 rfl (by decide +kernel) [.int r11] rfl ?_
  refine v_if_eq C 33 12 rfl (by decide +kernel) (fun h12 => ?_) (fun h12 => ?_)
  · have hf := ite2_t hf h12
    refine v_iconst C (0) (0) (by decide) 34 rfl (by decide +kernel) ?_
    cases hf
    exact v_zret C hr rfl (by decide +kernel)
  · have hf := ite2_f hf h12
    refine v_aload_n C 0 0 rfl 13 rfl (by decide +kernel) ?_
    obtain ⟨b13, hb13, hf⟩ := drf_e hf
    obtain ⟨hk_b13, hf⟩ := grd_e hf
    refine v_getR C 4 7 hb13 rfl nin_4 (ns_kd_lt hk_a0 (by decide)) hk_a0 (by decide) (by decide) rfl 44 tw_227 rfl 16 rfl (by decide +kernel) ?_
    refine v_getJN C 1 3 rfl nin_1 (ns_kd_lt hk_b13 (by decide)) hk_b13 (by decide) (by decide) rfl 148 tw_59 rfl 19 rfl (by decide +kernel) ?_
    refine v_aload_n C 1 1 rfl 20 rfl (by decide +kernel) ?_
    refine v_getIN C 2 2 rfl nin_2 (ns_kd_lt hk_a1 (by decide)) hk_a1 (by decide) (by decide) rfl 107 tw_90 rfl 23 rfl (by decide +kernel) ?_
    obtain ⟨r15, σ14, hcr15, hf⟩ := cl2_e hf
    refine v_cSN C [.long (σ10.2.1 b13 3), .int (σ10.1 a1 2)] [] (c_N_isIn G l σ10 (σ10.2.1 b13 3) (σ10.1 a1 2) hcr15) 72 2 tw_455 tw_815 tw_454 tw_1 hd_N_isIn rfl ⟨(Nat.le_of_ble_eq_true rfl), (Nat.le_of_ble_eq_true rfl)⟩ ⟨(Nat.le_of_ble_eq_true rfl), (Nat.le_of_ble_eq_true rfl)⟩ (Nat.le_of_ble_eq_true rfl) rfl 26 rfl (by decide +kernel) [.int r15] rfl ?_
    refine v_if_eq C 33 29 rfl (by decide +kernel) (fun h16 => ?_) (fun h16 => ?_)
    · have hf := ite2_t hf h16
      refine v_iconst C (0) (0) (by decide) 34 rfl (by decide +kernel) ?_
      cases hf
      exact v_zret C hr rfl (by decide +kernel)
    · have hf := ite2_f hf h16
      refine v_iconst C (1) (1) (by decide) 30 rfl (by decide +kernel) ?_
      refine v_goto C 34 (by decide +kernel) ?_
      cases hf
      exact v_zret C hr rfl (by decide +kernel)
theorem hd_StonePlan_fallsNext : (⟨"NinthStep$StonePlan", "fallsNext", "(LNinthStep$Mule;I)Z"⟩ : MethodName).cls = "NinthStep$StonePlan" ∧ (⟨"NinthStep$StonePlan", "fallsNext", "(LNinthStep$Mule;I)Z"⟩ : MethodName).cls ≠ "java/lang/invoke/MethodHandle" ∧ (⟨"NinthStep$StonePlan", "fallsNext", "(LNinthStep$Mule;I)Z"⟩ : MethodName).cls ≠ "java/lang/invoke/VarHandle" ∧ (parseMethodDescriptor (⟨"NinthStep$StonePlan", "fallsNext", "(LNinthStep$Mule;I)Z"⟩ : MethodName).desc).map (fun d => d.parameters.length) = some 2 := by decide +kernel
def g_StonePlan_fallsAsItIs_13  : Nat → ns_St → Nat → Int32 → Option (Int32 × ns_St)
  | 0, _, _, _ => none
  | f + 1, σ, a0, x2 => drf (σ.2.2 a0 7) fun b12 => grd (ns_kd b12 = 1) <| ite2 ((σ.1 b12 0) ≤ x2) (some ((0 : Int32), σ)) (drf (σ.2.2 a0 3) fun b14 => grd (ns_kd b14 = 2) <| cl2 (g_StonePlan_fallsNext σ a0 b14 (0 : Int32)) fun r16 σ15 => ite2 (r16 = 0) (bnd (x2 + 1) fun z18 => (g_StonePlan_fallsAsItIs_13 f) σ15 a0 z18) (some ((1 : Int32), σ15)))
def g_StonePlan_fallsAsItIs (σ : ns_St) (a0 : Nat) (a1 : Nat) : Option (Int32 × ns_St) := grd (ns_kd a0 = 4) <| grd (ns_kd a1 = 2) <| drf (σ.2.2 a0 3) fun b19 => grd (ns_kd b19 = 2) <| cl2 (g_Mule_takeFrom σ b19 a1) fun r21 σ20 => bnd (σ20.1 a1 2) fun z22 => g_StonePlan_fallsAsItIs_13 ns_F σ20 a0 z22
theorem t_StonePlan_fallsAsItIs_13 (G : ns_G) (l : Launch) {p : Program} {e : Env} {s : State} {m : MethodId} {args : Array Value} {below : List Frame} {meth : Method} {c : Code} (C : ns_Cx G p s m args meth c prog_6_method_6_code "NinthStep$StonePlan" 3) (hr : meth.sig.returnType = (some .boolean)) {r : Int32} {σ' : ns_St}  : ∀ (f : Nat) (σ : ns_St) (a0 : Nat) (x2 : Int32) (hk_a0 : ns_kd a0 = 4), g_StonePlan_fallsAsItIs_13 f σ a0 x2 = some (r, σ') → VV G p l e { frames := 3, cells := 0, slots := 0, locals := 67 } s m args below meth c 3 0 0 (MQ below (ns_Qc G (some (.int r)) ns_N σ') args s 0 0 (ns_A G)) ns_N σ 13 [(0, .ref (G.1 + a0)), (2, .int x2)] [] := by
  intro f
  induction f with
  | zero =>
    intro σ a0 x2 hk_a0 hf
    cases hf
  | succ f ih =>
    intro σ a0 x2 hk_a0 hf
    rw [g_StonePlan_fallsAsItIs_13] at hf
    refine v_iload_n C 2 1 rfl 14 rfl (by decide +kernel) ?_
    refine v_aload_n C 0 0 rfl 15 rfl (by decide +kernel) ?_
    obtain ⟨b12, hb12, hf⟩ := drf_e hf
    obtain ⟨hk_b12, hf⟩ := grd_e hf
    refine v_getR C 4 7 hb12 rfl nin_4 (ns_kd_lt hk_a0 (by decide)) hk_a0 (by decide) (by decide) rfl 44 tw_227 rfl 18 rfl (by decide +kernel) ?_
    refine v_getIN C 1 0 rfl nin_1 (ns_kd_lt hk_b12 (by decide)) hk_b12 (by decide) (by decide) rfl 87 tw_42 rfl 21 rfl (by decide +kernel) ?_
    refine v_icmp_ge C 44 24 rfl (by decide +kernel) (fun h13 => ?_) (fun h13 => ?_)
    · have hf := ite2_t hf h13
      refine v_iconst C (0) (0) (by decide) 45 rfl (by decide +kernel) ?_
      cases hf
      exact v_zret C hr rfl (by decide +kernel)
    · have hf := ite2_f hf h13
      refine v_aload_n C 0 0 rfl 25 rfl (by decide +kernel) ?_
      refine v_aload_n C 0 0 rfl 26 rfl (by decide +kernel) ?_
      obtain ⟨b14, hb14, hf⟩ := drf_e hf
      obtain ⟨hk_b14, hf⟩ := grd_e hf
      refine v_getR C 4 3 hb14 rfl nin_4 (ns_kd_lt hk_a0 (by decide)) hk_a0 (by decide) (by decide) rfl 25 tw_223 rfl 29 rfl (by decide +kernel) ?_
      refine v_iconst C (0) (0) (by decide) 30 rfl (by decide +kernel) ?_
      obtain ⟨r16, σ15, hcr16, hf⟩ := cl2_e hf
      refine v_cV C 4 rfl (ns_kd_lt hk_a0 (by decide)) hk_a0 (by decide) [.ref (G.1 + b14), .int (0 : Int32)] [] (c_StonePlan_fallsNext G l σ a0 b14 (0 : Int32) hcr16) 110 2 tw_813 tw_810 tw_812 ts_53 tw_7 hd_StonePlan_fallsNext rfl ⟨(Nat.le_of_ble_eq_true rfl), (Nat.le_of_ble_eq_true rfl)⟩ ⟨(Nat.le_of_ble_eq_true rfl), (Nat.le_of_ble_eq_true rfl)⟩ (Nat.le_of_ble_eq_true rfl) rfl 33 rfl (by decide +kernel) [.int r16] rfl ?_
      refine v_if_eq C 38 36 rfl (by decide +kernel) (fun h17 => ?_) (fun h17 => ?_)
      · have hf := ite2_t hf h17
        obtain ⟨z18, hz18, hf⟩ := bnd_e hf
        refine v_iinc C 2 (1) 1 z18 rfl (by rw [hz18]; rfl) [(2, .int z18), (0, .ref (G.1 + a0))] (by decide) rfl 41 rfl (by decide +kernel) ?_
        refine v_goto C 13 (by decide +kernel) ?_
        refine v_sub [1, 0] rfl ?_
        exact ih σ15 a0 z18 hk_a0 hf
      · have hf := ite2_f hf h17
        refine v_iconst C (1) (1) (by decide) 37 rfl (by decide +kernel) ?_
        cases hf
        exact v_zret C hr rfl (by decide +kernel)
theorem c_StonePlan_fallsAsItIs (G : ns_G) (l : Launch) (σ : ns_St) (a0 : Nat) (a1 : Nat) {r : Int32} {σ' : ns_St} (hf : g_StonePlan_fallsAsItIs σ a0 a1 = some (r, σ')) : ns_ok G l ⟨"NinthStep$StonePlan", "fallsAsItIs", "(LNinthStep$Mule;)Z"⟩ prog_6_method_6_code 3 (some .boolean) 3 67 0 0 [.ref (G.1 + a0), .ref (G.1 + a1)] ns_N σ (some (.int r)) ns_N σ' := by
  refine v_open (by decide) (Nat.le_of_ble_eq_true rfl) rfl ?_
  intro p e s m below meth c C hr _
  have C : ns_Cx G p s m _ meth c prog_6_method_6_code "NinthStep$StonePlan" 3 := C
  unfold g_StonePlan_fallsAsItIs at hf
  obtain ⟨hk_a0, hf⟩ := grd_e hf
  obtain ⟨hk_a1, hf⟩ := grd_e hf
  refine v_aload_n C 0 0 rfl 1 rfl (by decide +kernel) ?_
  obtain ⟨b19, hb19, hf⟩ := drf_e hf
  obtain ⟨hk_b19, hf⟩ := grd_e hf
  refine v_getR C 4 3 hb19 rfl nin_4 (ns_kd_lt hk_a0 (by decide)) hk_a0 (by decide) (by decide) rfl 25 tw_223 rfl 4 rfl (by decide +kernel) ?_
  refine v_aload_n C 1 1 rfl 5 rfl (by decide +kernel) ?_
  obtain ⟨r21, σ20, hcr21, hf⟩ := cl2_e hf
  refine v_cVN C 2 rfl (ns_kd_lt hk_b19 (by decide)) hk_b19 (by decide) [.ref (G.1 + a1)] [] (c_Mule_takeFrom G l σ b19 a1 hcr21) 103 1 tw_522 tw_809 tw_521 ts_19 tw_4 hd_Mule_takeFrom rfl ⟨(Nat.le_of_ble_eq_true rfl), (Nat.le_of_ble_eq_true rfl)⟩ ⟨(Nat.le_of_ble_eq_true rfl), (Nat.le_of_ble_eq_true rfl)⟩ (Nat.le_of_ble_eq_true rfl) rfl 8 rfl (by decide +kernel) [] rfl ?_
  refine v_aload_n C 1 1 rfl 9 rfl (by decide +kernel) ?_
  refine v_getIN C 2 2 rfl nin_2 (ns_kd_lt hk_a1 (by decide)) hk_a1 (by decide) (by decide) rfl 107 tw_90 rfl 12 rfl (by decide +kernel) ?_
  obtain ⟨z22, hz22, hf⟩ := bnd_e hf
  refine v_nmI hz22 ?_
  refine v_istore_n C 2 [(2, .int z22), (0, .ref (G.1 + a0)), (1, .ref (G.1 + a1))] (by decide) rfl 13 rfl (by decide +kernel) ?_
  refine v_sub [1, 0] rfl ?_
  exact t_StonePlan_fallsAsItIs_13 G l C hr  ns_F σ20 a0 z22 hk_a0 hf
theorem hd_StonePlan_fallsAsItIs : (⟨"NinthStep$StonePlan", "fallsAsItIs", "(LNinthStep$Mule;)Z"⟩ : MethodName).cls = "NinthStep$StonePlan" ∧ (⟨"NinthStep$StonePlan", "fallsAsItIs", "(LNinthStep$Mule;)Z"⟩ : MethodName).cls ≠ "java/lang/invoke/MethodHandle" ∧ (⟨"NinthStep$StonePlan", "fallsAsItIs", "(LNinthStep$Mule;)Z"⟩ : MethodName).cls ≠ "java/lang/invoke/VarHandle" ∧ (parseMethodDescriptor (⟨"NinthStep$StonePlan", "fallsAsItIs", "(LNinthStep$Mule;)Z"⟩ : MethodName).desc).map (fun d => d.parameters.length) = some 1 := by decide +kernel
def g_StonePlan_isAnyNeeded_10  : Nat → ns_St → Nat → Nat → Int32 → Option (Int32 × ns_St)
  | 0, _, _, _, _ => none
  | f + 1, σ, a0, a1, x2 => ite2 ((σ.1 a1 2) ≤ x2) (some ((0 : Int32), σ)) (drf (σ.2.2 a1 1) fun b12 => grd (ns_kd b12 = 12) <| grd (ns_in x2 (ns_ln b12)) <| drf (σ.2.2 b12 (ns_ix x2)) fun b14 => grd (ns_kd b14 = 2) <| cl2 (g_StonePlan_fallsAsItIs σ a0 b14) fun r16 σ15 => ite2 (r16 = 0) (bnd (x2 + 1) fun z18 => (g_StonePlan_isAnyNeeded_10 f) σ15 a0 a1 z18) (some ((1 : Int32), σ15)))
def g_StonePlan_isAnyNeeded (σ : ns_St) (a0 : Nat) (a1 : Nat) : Option (Int32 × ns_St) := grd (ns_kd a0 = 4) <| grd (ns_kd a1 = 7) <| drf (σ.2.2 a1 0) fun b19 => grd (ns_kd b19 = 1) <| bnd (ns_pR σ a0 7 (some b19)) fun σ20 => g_StonePlan_isAnyNeeded_10 ns_F σ20 a0 a1 (0 : Int32)
theorem t_StonePlan_isAnyNeeded_10 (G : ns_G) (l : Launch) {p : Program} {e : Env} {s : State} {m : MethodId} {args : Array Value} {below : List Frame} {meth : Method} {c : Code} (C : ns_Cx G p s m args meth c prog_6_method_2_code "NinthStep$StonePlan" 3) (hr : meth.sig.returnType = (some .boolean)) {r : Int32} {σ' : ns_St}  : ∀ (f : Nat) (σ : ns_St) (a0 : Nat) (a1 : Nat) (x2 : Int32) (hk_a0 : ns_kd a0 = 4) (hk_a1 : ns_kd a1 = 7), g_StonePlan_isAnyNeeded_10 f σ a0 a1 x2 = some (r, σ') → VV G p l e { frames := 4, cells := 0, slots := 0, locals := 89 } s m args below meth c 3 0 0 (MQ below (ns_Qc G (some (.int r)) ns_N σ') args s 0 0 (ns_A G)) ns_N σ 10 [(0, .ref (G.1 + a0)), (1, .ref (G.1 + a1)), (2, .int x2)] [] := by
  intro f
  induction f with
  | zero =>
    intro σ a0 a1 x2 hk_a0 hk_a1 hf
    cases hf
  | succ f ih =>
    intro σ a0 a1 x2 hk_a0 hk_a1 hf
    rw [g_StonePlan_isAnyNeeded_10] at hf
    refine v_iload_n C 2 2 rfl 11 rfl (by decide +kernel) ?_
    refine v_aload_n C 1 1 rfl 12 rfl (by decide +kernel) ?_
    refine v_getIN C 7 2 rfl nin_7 (ns_kd_lt hk_a1 (by decide)) hk_a1 (by decide) (by decide) rfl 45 tw_132 rfl 15 rfl (by decide +kernel) ?_
    refine v_icmp_ge C 39 18 rfl (by decide +kernel) (fun h11 => ?_) (fun h11 => ?_)
    · have hf := ite2_t hf h11
      refine v_iconst C (0) (0) (by decide) 40 rfl (by decide +kernel) ?_
      cases hf
      exact v_zret C hr rfl (by decide +kernel)
    · have hf := ite2_f hf h11
      refine v_aload_n C 0 0 rfl 19 rfl (by decide +kernel) ?_
      refine v_aload_n C 1 1 rfl 20 rfl (by decide +kernel) ?_
      obtain ⟨b12, hb12, hf⟩ := drf_e hf
      obtain ⟨hk_b12, hf⟩ := grd_e hf
      refine v_getRN C 7 1 hb12 rfl nin_7 (ns_kd_lt hk_a1 (by decide)) hk_a1 (by decide) (by decide) rfl 49 tw_130 rfl 23 rfl (by decide +kernel) ?_
      refine v_iload_n C 2 2 rfl 24 rfl (by decide +kernel) ?_
      obtain ⟨hi13, hf⟩ := grd_e hf
      obtain ⟨b14, hb14, hf⟩ := drf_e hf
      obtain ⟨hk_b14, hf⟩ := grd_e hf
      refine v_aald C 12 (by decide) (ns_kd_lt hk_b12 (by decide)) hk_b12 hi13 hb14 25 rfl (by decide +kernel) ?_
      obtain ⟨r16, σ15, hcr16, hf⟩ := cl2_e hf
      refine v_cV C 4 rfl (ns_kd_lt hk_a0 (by decide)) hk_a0 (by decide) [.ref (G.1 + b14)] [] (c_StonePlan_fallsAsItIs G l σ a0 b14 hcr16) 53 1 tw_808 tw_805 tw_807 ts_52 tw_7 hd_StonePlan_fallsAsItIs rfl ⟨(Nat.le_of_ble_eq_true rfl), (Nat.le_of_ble_eq_true rfl)⟩ ⟨(Nat.le_of_ble_eq_true rfl), (Nat.le_of_ble_eq_true rfl)⟩ (Nat.le_of_ble_eq_true rfl) rfl 28 rfl (by decide +kernel) [.int r16] rfl ?_
      refine v_if_eq C 33 31 rfl (by decide +kernel) (fun h17 => ?_) (fun h17 => ?_)
      · have hf := ite2_t hf h17
        obtain ⟨z18, hz18, hf⟩ := bnd_e hf
        refine v_iinc C 2 (1) 2 z18 rfl (by rw [hz18]; rfl) [(2, .int z18), (0, .ref (G.1 + a0)), (1, .ref (G.1 + a1))] (by decide) rfl 36 rfl (by decide +kernel) ?_
        refine v_goto C 10 (by decide +kernel) ?_
        refine v_sub [1, 2, 0] rfl ?_
        exact ih σ15 a0 a1 z18 hk_a0 hk_a1 hf
      · have hf := ite2_f hf h17
        refine v_iconst C (1) (1) (by decide) 32 rfl (by decide +kernel) ?_
        cases hf
        exact v_zret C hr rfl (by decide +kernel)
theorem c_StonePlan_isAnyNeeded (G : ns_G) (l : Launch) (σ : ns_St) (a0 : Nat) (a1 : Nat) {r : Int32} {σ' : ns_St} (hf : g_StonePlan_isAnyNeeded σ a0 a1 = some (r, σ')) : ns_ok G l ⟨"NinthStep$StonePlan", "isAnyNeeded", "(LNinthStep$World;)Z"⟩ prog_6_method_2_code 3 (some .boolean) 4 89 0 0 [.ref (G.1 + a0), .ref (G.1 + a1)] ns_N σ (some (.int r)) ns_N σ' := by
  refine v_open (by decide) (Nat.le_of_ble_eq_true rfl) rfl ?_
  intro p e s m below meth c C hr _
  have C : ns_Cx G p s m _ meth c prog_6_method_2_code "NinthStep$StonePlan" 3 := C
  unfold g_StonePlan_isAnyNeeded at hf
  obtain ⟨hk_a0, hf⟩ := grd_e hf
  obtain ⟨hk_a1, hf⟩ := grd_e hf
  refine v_aload_n C 0 0 rfl 1 rfl (by decide +kernel) ?_
  refine v_aload_n C 1 1 rfl 2 rfl (by decide +kernel) ?_
  obtain ⟨b19, hb19, hf⟩ := drf_e hf
  obtain ⟨hk_b19, hf⟩ := grd_e hf
  refine v_getRN C 7 0 hb19 rfl nin_7 (ns_kd_lt hk_a1 (by decide)) hk_a1 (by decide) (by decide) rfl 38 tw_126 rfl 5 rfl (by decide +kernel) ?_
  obtain ⟨σ20, hσ20, hf⟩ := bnd_e hf
  refine v_putR C 4 7 hσ20 rfl nin_4 ny_4 nty_4 nnm_4 (ns_kd_lt hk_a0 (by decide)) hk_a0 (by decide) (by decide) rfl rfl rfl rfl 44 tw_227 rfl 8 rfl (by decide +kernel) ?_
  refine v_iconst C (0) (0) (by decide) 9 rfl (by decide +kernel) ?_
  refine v_istore_n C 2 [(2, .int (0 : Int32)), (0, .ref (G.1 + a0)), (1, .ref (G.1 + a1))] (by decide) rfl 10 rfl (by decide +kernel) ?_
  refine v_sub [1, 2, 0] rfl ?_
  exact t_StonePlan_isAnyNeeded_10 G l C hr  ns_F σ20 a0 a1 (0 : Int32) hk_a0 hk_a1 hf
theorem hd_StonePlan_isAnyNeeded : (⟨"NinthStep$StonePlan", "isAnyNeeded", "(LNinthStep$World;)Z"⟩ : MethodName).cls = "NinthStep$StonePlan" ∧ (⟨"NinthStep$StonePlan", "isAnyNeeded", "(LNinthStep$World;)Z"⟩ : MethodName).cls ≠ "java/lang/invoke/MethodHandle" ∧ (⟨"NinthStep$StonePlan", "isAnyNeeded", "(LNinthStep$World;)Z"⟩ : MethodName).cls ≠ "java/lang/invoke/VarHandle" ∧ (parseMethodDescriptor (⟨"NinthStep$StonePlan", "isAnyNeeded", "(LNinthStep$World;)Z"⟩ : MethodName).desc).map (fun d => d.parameters.length) = some 1 := by decide +kernel
def g_StonePlan_freePlaces (σ : ns_St) (a0 : Nat) : Option (Int64 × ns_St) := grd (ns_kd a0 = 4) <| drf (σ.2.2 a0 7) fun b5 => grd (ns_kd b5 = 1) <| cl2 (g_N_bit σ ((σ.1 b5 0) + (1 : Int32))) fun r7 σ6 => drf (σ6.2.2 a0 7) fun b8 => grd (ns_kd b8 = 1) <| some (((r7 - (2 : Int64)) &&& ((σ6.2.1 b8 1) ^^^ (-1 : Int64))), σ6)
theorem c_StonePlan_freePlaces (G : ns_G) (l : Launch) (σ : ns_St) (a0 : Nat) {r : Int64} {σ' : ns_St} (hf : g_StonePlan_freePlaces σ a0 = some (r, σ')) : ns_ok G l ⟨"NinthStep$StonePlan", "freePlaces", "()J"⟩ prog_6_method_5_code 1 (some .long) 1 20 0 0 [.ref (G.1 + a0)] ns_N σ (some (.long r)) ns_N σ' := by
  refine v_open (by decide) (Nat.le_of_ble_eq_true rfl) rfl ?_
  intro p e s m below meth c C hr _
  have C : ns_Cx G p s m _ meth c prog_6_method_5_code "NinthStep$StonePlan" 1 := C
  unfold g_StonePlan_freePlaces at hf
  obtain ⟨hk_a0, hf⟩ := grd_e hf
  refine v_aload_n C 0 0 rfl 1 rfl (by decide +kernel) ?_
  obtain ⟨b5, hb5, hf⟩ := drf_e hf
  obtain ⟨hk_b5, hf⟩ := grd_e hf
  refine v_getR C 4 7 hb5 rfl nin_4 (ns_kd_lt hk_a0 (by decide)) hk_a0 (by decide) (by decide) rfl 44 tw_227 rfl 4 rfl (by decide +kernel) ?_
  refine v_getIN C 1 0 rfl nin_1 (ns_kd_lt hk_b5 (by decide)) hk_b5 (by decide) (by decide) rfl 87 tw_42 rfl 7 rfl (by decide +kernel) ?_
  refine v_iconst C (1) (1) (by decide) 8 rfl (by decide +kernel) ?_
  refine v_iadd C 9 rfl (by decide +kernel) ?_
  obtain ⟨r7, σ6, hcr7, hf⟩ := cl2_e hf
  refine v_cSN C [.int ((σ.1 b5 0) + (1 : Int32))] [] (c_N_bit G l σ ((σ.1 b5 0) + (1 : Int32)) hcr7) 92 1 tw_468 tw_824 tw_467 tw_1 hd_N_bit rfl ⟨(Nat.le_of_ble_eq_true rfl), (Nat.le_of_ble_eq_true rfl)⟩ ⟨(Nat.le_of_ble_eq_true rfl), (Nat.le_of_ble_eq_true rfl)⟩ (Nat.le_of_ble_eq_true rfl) rfl 12 rfl (by decide +kernel) [.long r7] rfl ?_
  refine v_ldc2 C 95 (2) tw_825 15 rfl (by decide +kernel) ?_
  refine v_lsub C 16 rfl (by decide +kernel) ?_
  refine v_aload_n C 0 0 rfl 17 rfl (by decide +kernel) ?_
  obtain ⟨b8, hb8, hf⟩ := drf_e hf
  obtain ⟨hk_b8, hf⟩ := grd_e hf
  refine v_getR C 4 7 hb8 rfl nin_4 (ns_kd_lt hk_a0 (by decide)) hk_a0 (by decide) (by decide) rfl 44 tw_227 rfl 20 rfl (by decide +kernel) ?_
  refine v_getJN C 1 1 rfl nin_1 (ns_kd_lt hk_b8 (by decide)) hk_b8 (by decide) (by decide) rfl 97 tw_48 rfl 23 rfl (by decide +kernel) ?_
  refine v_ldc2 C 101 (-1) tw_826 26 rfl (by decide +kernel) ?_
  refine v_lxor C 27 rfl (by decide +kernel) ?_
  refine v_land C 28 rfl (by decide +kernel) ?_
  cases hf
  exact v_lret C hr (by decide +kernel)
theorem hd_StonePlan_freePlaces : (⟨"NinthStep$StonePlan", "freePlaces", "()J"⟩ : MethodName).cls = "NinthStep$StonePlan" ∧ (⟨"NinthStep$StonePlan", "freePlaces", "()J"⟩ : MethodName).cls ≠ "java/lang/invoke/MethodHandle" ∧ (⟨"NinthStep$StonePlan", "freePlaces", "()J"⟩ : MethodName).cls ≠ "java/lang/invoke/VarHandle" ∧ (parseMethodDescriptor (⟨"NinthStep$StonePlan", "freePlaces", "()J"⟩ : MethodName).desc).map (fun d => d.parameters.length) = some 0 := by decide +kernel
def g_StonePlan_isSafe (σ : ns_St) (a0 : Nat) (a1 : Nat) : Option (Int32 × ns_St) := grd (ns_kd a0 = 4) <| grd (ns_kd a1 = 2) <| drf (σ.2.2 a0 0) fun b8 => grd (ns_kd b8 = 11) <| grd (ns_in (σ.1 a1 2) (ns_ln b8)) <| cl2 (g_Mule_cappedCount σ a1) fun r11 σ10 => cl2 (g_N_isIn σ10 (σ.2.1 b8 (ns_ix (σ.1 a1 2))) r11) fun r13 σ12 => grd (r13 = 0 ∨ r13 = 1) <| some (r13, σ12)
theorem c_StonePlan_isSafe (G : ns_G) (l : Launch) (σ : ns_St) (a0 : Nat) (a1 : Nat) {r : Int32} {σ' : ns_St} (hf : g_StonePlan_isSafe σ a0 a1 = some (r, σ')) : ns_ok G l ⟨"NinthStep$StonePlan", "isSafe", "(LNinthStep$Mule;)Z"⟩ prog_6_method_10_code 2 (some .boolean) 2 41 0 0 [.ref (G.1 + a0), .ref (G.1 + a1)] ns_N σ (some (.int r)) ns_N σ' := by
  refine v_open (by decide) (Nat.le_of_ble_eq_true rfl) rfl ?_
  intro p e s m below meth c C hr _
  have C : ns_Cx G p s m _ meth c prog_6_method_10_code "NinthStep$StonePlan" 2 := C
  unfold g_StonePlan_isSafe at hf
  obtain ⟨hk_a0, hf⟩ := grd_e hf
  obtain ⟨hk_a1, hf⟩ := grd_e hf
  refine v_aload_n C 0 0 rfl 1 rfl (by decide +kernel) ?_
  obtain ⟨b8, hb8, hf⟩ := drf_e hf
  obtain ⟨hk_b8, hf⟩ := grd_e hf
  refine v_getR C 4 0 hb8 rfl nin_4 (ns_kd_lt hk_a0 (by decide)) hk_a0 (by decide) (by decide) rfl 9 tw_220 rfl 4 rfl (by decide +kernel) ?_
  refine v_aload_n C 1 1 rfl 5 rfl (by decide +kernel) ?_
  refine v_getIN C 2 2 rfl nin_2 (ns_kd_lt hk_a1 (by decide)) hk_a1 (by decide) (by decide) rfl 107 tw_90 rfl 8 rfl (by decide +kernel) ?_
  obtain ⟨hi9, hf⟩ := grd_e hf
  refine v_lald C (ns_kd_lt hk_b8 (by decide)) hk_b8 hi9 9 rfl (by decide +kernel) ?_
  refine v_aload_n C 1 1 rfl 10 rfl (by decide +kernel) ?_
  obtain ⟨r11, σ10, hcr11, hf⟩ := cl2_e hf
  refine v_cVN C 2 rfl (ns_kd_lt hk_a1 (by decide)) hk_a1 (by decide) [] [.long (σ.2.1 b8 (ns_ix (σ.1 a1 2)))] (c_Mule_cappedCount G l σ a1 hcr11) 140 0 tw_715 tw_842 tw_714 ts_39 tw_4 hd_Mule_cappedCount rfl ⟨(Nat.le_of_ble_eq_true rfl), (Nat.le_of_ble_eq_true rfl)⟩ ⟨(Nat.le_of_ble_eq_true rfl), (Nat.le_of_ble_eq_true rfl)⟩ (Nat.le_of_ble_eq_true rfl) rfl 13 rfl (by decide +kernel) [.int r11, .long (σ.2.1 b8 (ns_ix (σ.1 a1 2)))] rfl ?_
  obtain ⟨r13, σ12, hcr13, hf⟩ := cl2_e hf
  refine v_cSN C [.long (σ.2.1 b8 (ns_ix (σ.1 a1 2))), .int r11] [] (c_N_isIn G l σ10 (σ.2.1 b8 (ns_ix (σ.1 a1 2))) r11 hcr13) 72 2 tw_455 tw_815 tw_454 tw_1 hd_N_isIn rfl ⟨(Nat.le_of_ble_eq_true rfl), (Nat.le_of_ble_eq_true rfl)⟩ ⟨(Nat.le_of_ble_eq_true rfl), (Nat.le_of_ble_eq_true rfl)⟩ (Nat.le_of_ble_eq_true rfl) rfl 16 rfl (by decide +kernel) [.int r13] rfl ?_
  obtain ⟨hz14, hf⟩ := grd_e hf
  cases hf
  exact v_zret C hr (ns_z01 hz14) (by decide +kernel)
theorem hd_StonePlan_isSafe : (⟨"NinthStep$StonePlan", "isSafe", "(LNinthStep$Mule;)Z"⟩ : MethodName).cls = "NinthStep$StonePlan" ∧ (⟨"NinthStep$StonePlan", "isSafe", "(LNinthStep$Mule;)Z"⟩ : MethodName).cls ≠ "java/lang/invoke/MethodHandle" ∧ (⟨"NinthStep$StonePlan", "isSafe", "(LNinthStep$Mule;)Z"⟩ : MethodName).cls ≠ "java/lang/invoke/VarHandle" ∧ (parseMethodDescriptor (⟨"NinthStep$StonePlan", "isSafe", "(LNinthStep$Mule;)Z"⟩ : MethodName).desc).map (fun d => d.parameters.length) = some 1 := by decide +kernel
