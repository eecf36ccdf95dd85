def g_M_feed (σ : ns_St) (a0 : Nat) (x1 : Int32) : Option (Int32 × ns_St) := grd (ns_kd a0 = 9) <| cl2 (g_M_within σ x1 (0 : Int32) (255 : Int32)) fun r15 σ14 => ite2 (r15 = 0) (cl2 (g_M_no σ14 a0 (-2 : Int32)) fun r26 σ25 => some (r26, σ25)) (ite2 ((σ14.1 a0 15) = (250 : Int32)) (cl2 (g_M_no σ14 a0 (-6 : Int32)) fun r24 σ23 => some (r24, σ23)) (drf (σ14.2.2 a0 16) fun b18 => grd (ns_kd b18 = 10) <| bnd (σ14.1 a0 15) fun z19 => bnd (ns_pI σ14 a0 15 (z19 + (1 : Int32))) fun σ20 => grd (ns_in z19 (ns_ln b18)) <| bnd (ns_pI σ20 b18 (ns_ix z19) x1) fun σ22 => some ((σ22.1 a0 15), σ22)))
theorem c_M_feed (G : ns_G) (l : Launch) (σ : ns_St) (a0 : Nat) (x1 : Int32) {r : Int32} {σ' : ns_St} (hf : g_M_feed σ a0 x1 = some (r, σ')) : ns_ok G l ⟨"NinthStepModel", "feed", "(I)I"⟩ prog_11_method_28_code 2 (some .int) 1 22 0 0 [.ref (G.1 + a0), .int x1] ns_N σ (some (.int r)) ns_N σ' := by
  refine v_open (by decide) (Nat.le_of_ble_eq_true rfl) rfl ?_
  intro p e s m below meth c C hr _
  have C : ns_Cx G p s m _ meth c prog_11_method_28_code "NinthStepModel" 2 := C
  unfold g_M_feed at hf
  obtain ⟨hk_a0, hf⟩ := grd_e hf
  refine v_iload_n C 1 1 rfl 1 rfl (by decide +kernel) ?_
  refine v_iconst C (0) (0) (by decide) 2 rfl (by decide +kernel) ?_
  refine v_sipush C (255) (255) (by decide) 5 rfl (by decide +kernel) ?_
  obtain ⟨r15, σ14, hcr15, hf⟩ := cl2_e hf
  refine v_cS C [.int x1, .int (0 : Int32), .int (255 : Int32)] [] (c_M_within G l σ x1 (0 : Int32) (255 : Int32) hcr15) 69 3 tw_1075 tw_1073 tw_1074 tw_10 hd_M_within rfl ⟨(Nat.le_of_ble_eq_true rfl), (Nat.le_of_ble_eq_true rfl)⟩ ⟨(Nat.le_of_ble_eq_true rfl), (Nat.le_of_ble_eq_true rfl)⟩ (Nat.le_of_ble_eq_true rfl) rfl 8 rfl (by decide +kernel) [.int r15] rfl ?_
  refine v_if_ne C 18 11 rfl (by decide +kernel) (fun h16 => ?_) (fun h16 => ?_)
  · have hf := ite2_f hf h16
    refine v_aload_n C 0 0 rfl 19 rfl (by decide +kernel) ?_
    refine v_getI C 9 15 rfl nin_9 (ns_kd_lt hk_a0 (by decide)) hk_a0 (by decide) (by decide) rfl 122 tw_990 rfl 22 rfl (by decide +kernel) ?_
    refine v_sipush C (250) (250) (by decide) 25 rfl (by decide +kernel) ?_
    refine v_icmp_ne C 35 28 rfl (by decide +kernel) (fun h17 => ?_) (fun h17 => ?_)
    · have hf := ite2_f hf h17
      refine v_aload_n C 0 0 rfl 36 rfl (by decide +kernel) ?_
      obtain ⟨b18, hb18, hf⟩ := drf_e hf
      obtain ⟨hk_b18, hf⟩ := grd_e hf
      refine v_getR C 9 16 hb18 rfl nin_9 (ns_kd_lt hk_a0 (by decide)) hk_a0 (by decide) (by decide) rfl 41 tw_991 rfl 39 rfl (by decide +kernel) ?_
      refine v_aload_n C 0 0 rfl 40 rfl (by decide +kernel) ?_
      refine v_dup C rfl 41 rfl (by decide +kernel) ?_
      refine v_getI C 9 15 rfl nin_9 (ns_kd_lt hk_a0 (by decide)) hk_a0 (by decide) (by decide) rfl 122 tw_990 rfl 44 rfl (by decide +kernel) ?_
      obtain ⟨z19, hz19, hf⟩ := bnd_e hf
      refine v_nmI hz19 ?_
      refine v_dup_x1 C rfl rfl 45 rfl (by decide +kernel) ?_
      refine v_iconst C (1) (1) (by decide) 46 rfl (by decide +kernel) ?_
      refine v_iadd C 47 rfl (by decide +kernel) ?_
      obtain ⟨σ20, hσ20, hf⟩ := bnd_e hf
      refine v_putI C 9 15 hσ20 rfl nin_9 ny_9 nty_9 nnm_9 (ns_kd_lt hk_a0 (by decide)) hk_a0 (by decide) (by decide) rfl rfl rfl rfl 122 tw_990 rfl 50 rfl (by decide +kernel) ?_
      refine v_iload_n C 1 1 rfl 51 rfl (by decide +kernel) ?_
      obtain ⟨hi21, hf⟩ := grd_e hf
      obtain ⟨σ22, hσ22, hf⟩ := bnd_e hf
      refine v_iast C hσ22 (ns_kd_lt hk_b18 (by decide)) hk_b18 hi21 52 rfl (by decide +kernel) ?_
      refine v_aload_n C 0 0 rfl 53 rfl (by decide +kernel) ?_
      refine v_getI C 9 15 rfl nin_9 (ns_kd_lt hk_a0 (by decide)) hk_a0 (by decide) (by decide) rfl 122 tw_990 rfl 56 rfl (by decide +kernel) ?_
      obtain ⟨rfl, rfl⟩ := ret_e hf
      exact v_iret C hr (by decide +kernel)
    · have hf := ite2_t hf h17
      refine v_aload_n C 0 0 rfl 29 rfl (by decide +kernel) ?_
      refine v_bipush C (-6) (-6) (by decide) 31 rfl (by decide +kernel) ?_
      obtain ⟨r24, σ23, hcr24, hf⟩ := cl2_e hf
      refine v_cV C 9 rfl (ns_kd_lt hk_a0 (by decide)) hk_a0 (by decide) [.int (-6 : Int32)] [] (c_M_no G l σ14 a0 (-6 : Int32) hcr24) 73 1 tw_1079 tw_1076 tw_1078 ts_73 tw_10 hd_M_no rfl ⟨(Nat.le_of_ble_eq_true rfl), (Nat.le_of_ble_eq_true rfl)⟩ ⟨(Nat.le_of_ble_eq_true rfl), (Nat.le_of_ble_eq_true rfl)⟩ (Nat.le_of_ble_eq_true rfl) rfl 34 rfl (by decide +kernel) [.int r24] rfl ?_
      obtain ⟨rfl, rfl⟩ := ret_e hf
      exact v_iret C hr (by decide +kernel)
  · have hf := ite2_t hf h16
    refine v_aload_n C 0 0 rfl 12 rfl (by decide +kernel) ?_
    refine v_bipush C (-2) (-2) (by decide) 14 rfl (by decide +kernel) ?_
    obtain ⟨r26, σ25, hcr26, hf⟩ := cl2_e hf
    refine v_cV C 9 rfl (ns_kd_lt hk_a0 (by decide)) hk_a0 (by decide) [.int (-2 : Int32)] [] (c_M_no G l σ14 a0 (-2 : Int32) hcr26) 73 1 tw_1079 tw_1076 tw_1078 ts_73 tw_10 hd_M_no rfl ⟨(Nat.le_of_ble_eq_true rfl), (Nat.le_of_ble_eq_true rfl)⟩ ⟨(Nat.le_of_ble_eq_true rfl), (Nat.le_of_ble_eq_true rfl)⟩ (Nat.le_of_ble_eq_true rfl) rfl 17 rfl (by decide +kernel) [.int r26] rfl ?_
    obtain ⟨rfl, rfl⟩ := ret_e hf
    exact v_iret C hr (by decide +kernel)
theorem hd_M_feed : (⟨"NinthStepModel", "feed", "(I)I"⟩ : MethodName).cls = "NinthStepModel" ∧ (⟨"NinthStepModel", "feed", "(I)I"⟩ : MethodName).cls ≠ "java/lang/invoke/MethodHandle" ∧ (⟨"NinthStepModel", "feed", "(I)I"⟩ : MethodName).cls ≠ "java/lang/invoke/VarHandle" ∧ (parseMethodDescriptor (⟨"NinthStepModel", "feed", "(I)I"⟩ : MethodName).desc).map (fun d => d.parameters.length) = some 1 := by decide +kernel
def g_M_wipe (σ : ns_St) (a0 : Nat) : Option (Int32 × ns_St) := grd (ns_kd a0 = 9) <| bnd (σ.1 a0 15) fun z3 => bnd (ns_pI σ a0 15 (0 : Int32)) fun σ4 => some (z3, σ4)
theorem c_M_wipe (G : ns_G) (l : Launch) (σ : ns_St) (a0 : Nat) {r : Int32} {σ' : ns_St} (hf : g_M_wipe σ a0 = some (r, σ')) : ns_ok G l ⟨"NinthStepModel", "wipe", "()I"⟩ prog_11_method_29_code 2 (some .int) 0 0 0 0 [.ref (G.1 + a0)] ns_N σ (some (.int r)) ns_N σ' := by
  refine v_open (by decide) (Nat.le_of_ble_eq_true rfl) rfl ?_
  intro p e s m below meth c C hr _
  have C : ns_Cx G p s m _ meth c prog_11_method_29_code "NinthStepModel" 2 := C
  unfold g_M_wipe at hf
  obtain ⟨hk_a0, hf⟩ := grd_e hf
  refine v_aload_n C 0 0 rfl 1 rfl (by decide +kernel) ?_
  refine v_getI C 9 15 rfl nin_9 (ns_kd_lt hk_a0 (by decide)) hk_a0 (by decide) (by decide) rfl 122 tw_990 rfl 4 rfl (by decide +kernel) ?_
  obtain ⟨z3, hz3, hf⟩ := bnd_e hf
  refine v_nmI hz3 ?_
  refine v_istore_n C 1 [(1, .int z3), (0, .ref (G.1 + a0))] (by decide) rfl 5 rfl (by decide +kernel) ?_
  refine v_aload_n C 0 1 rfl 6 rfl (by decide +kernel) ?_
  refine v_iconst C (0) (0) (by decide) 7 rfl (by decide +kernel) ?_
  obtain ⟨σ4, hσ4, hf⟩ := bnd_e hf
  refine v_putI C 9 15 hσ4 rfl nin_9 ny_9 nty_9 nnm_9 (ns_kd_lt hk_a0 (by decide)) hk_a0 (by decide) (by decide) rfl rfl rfl rfl 122 tw_990 rfl 10 rfl (by decide +kernel) ?_
  refine v_iload_n C 1 0 rfl 11 rfl (by decide +kernel) ?_
  obtain ⟨rfl, rfl⟩ := ret_e hf
  exact v_iret C hr (by decide +kernel)
theorem hd_M_wipe : (⟨"NinthStepModel", "wipe", "()I"⟩ : MethodName).cls = "NinthStepModel" ∧ (⟨"NinthStepModel", "wipe", "()I"⟩ : MethodName).cls ≠ "java/lang/invoke/MethodHandle" ∧ (⟨"NinthStepModel", "wipe", "()I"⟩ : MethodName).cls ≠ "java/lang/invoke/VarHandle" ∧ (parseMethodDescriptor (⟨"NinthStepModel", "wipe", "()I"⟩ : MethodName).desc).map (fun d => d.parameters.length) = some 0 := by decide +kernel
def g_M_keep_37  : Nat → ns_St → Nat → Nat → Int32 → Option (Unit × ns_St)
  | 0, _, _, _, _ => none
  | f + 1, σ, a0, a1, x2 => ite2 ((6 : Int32) ≤ x2) (grd (ns_in (97 : Int32) (ns_ln a1)) <| bnd (ns_pI σ a1 (ns_ix (97 : Int32)) (σ.1 a0 3)) fun σ49 => grd (ns_in (98 : Int32) (ns_ln a1)) <| bnd (ns_pI σ49 a1 (ns_ix (98 : Int32)) (σ49.1 a0 5)) fun σ51 => grd (ns_in (99 : Int32) (ns_ln a1)) <| bnd (ns_pI σ51 a1 (ns_ix (99 : Int32)) (σ51.1 a0 12)) fun σ53 => grd (ns_in (100 : Int32) (ns_ln a1)) <| bnd (ns_pI σ53 a1 (ns_ix (100 : Int32)) (σ53.1 a0 13)) fun σ55 => grd (ns_in (101 : Int32) (ns_ln a1)) <| bnd (ns_pI σ55 a1 (ns_ix (101 : Int32)) (σ55.1 a0 14)) fun σ57 => some ((), σ57)) (drf (σ.2.2 a0 6) fun b58 => grd (ns_kd b58 = 10) <| grd (ns_in x2 (ns_ln b58)) <| grd (ns_in ((61 : Int32) + x2) (ns_ln a1)) <| bnd (ns_pI σ a1 (ns_ix ((61 : Int32) + x2)) (σ.1 b58 (ns_ix x2))) fun σ61 => drf (σ61.2.2 a0 7) fun b62 => grd (ns_kd b62 = 10) <| grd (ns_in x2 (ns_ln b62)) <| grd (ns_in ((67 : Int32) + x2) (ns_ln a1)) <| bnd (ns_pI σ61 a1 (ns_ix ((67 : Int32) + x2)) (σ61.1 b62 (ns_ix x2))) fun σ65 => drf (σ65.2.2 a0 8) fun b66 => grd (ns_kd b66 = 10) <| grd (ns_in x2 (ns_ln b66)) <| grd (ns_in ((73 : Int32) + x2) (ns_ln a1)) <| bnd (ns_pI σ65 a1 (ns_ix ((73 : Int32) + x2)) (σ65.1 b66 (ns_ix x2))) fun σ69 => drf (σ69.2.2 a0 9) fun b70 => grd (ns_kd b70 = 10) <| grd (ns_in x2 (ns_ln b70)) <| grd (ns_in ((79 : Int32) + x2) (ns_ln a1)) <| bnd (ns_pI σ69 a1 (ns_ix ((79 : Int32) + x2)) (σ69.1 b70 (ns_ix x2))) fun σ73 => drf (σ73.2.2 a0 10) fun b74 => grd (ns_kd b74 = 10) <| grd (ns_in x2 (ns_ln b74)) <| grd (ns_in ((85 : Int32) + x2) (ns_ln a1)) <| bnd (ns_pI σ73 a1 (ns_ix ((85 : Int32) + x2)) (σ73.1 b74 (ns_ix x2))) fun σ77 => drf (σ77.2.2 a0 11) fun b78 => grd (ns_kd b78 = 10) <| grd (ns_in x2 (ns_ln b78)) <| grd (ns_in ((91 : Int32) + x2) (ns_ln a1)) <| bnd (ns_pI σ77 a1 (ns_ix ((91 : Int32) + x2)) (σ77.1 b78 (ns_ix x2))) fun σ81 => bnd (x2 + 1) fun z82 => (g_M_keep_37 f) σ81 a0 a1 z82)
def g_M_keep_2  : Nat → ns_St → Nat → Nat → Int32 → Option (Unit × ns_St)
  | 0, _, _, _, _ => none
  | f + 1, σ, a0, a1, x2 => ite2 ((61 : Int32) ≤ x2) (g_M_keep_37 ns_F σ a0 a1 (0 : Int32)) (ite2 ((σ.1 a0 3) < x2) (grd (ns_in x2 (ns_ln a1)) <| bnd (ns_pI σ a1 (ns_ix x2) (0 : Int32)) fun σ86 => bnd (x2 + 1) fun z87 => (g_M_keep_2 f) σ86 a0 a1 z87) (drf (σ.2.2 a0 4) fun b88 => grd (ns_kd b88 = 10) <| grd (ns_in x2 (ns_ln b88)) <| grd (ns_in x2 (ns_ln a1)) <| bnd (ns_pI σ a1 (ns_ix x2) (σ.1 b88 (ns_ix x2))) fun σ91 => bnd (x2 + 1) fun z92 => (g_M_keep_2 f) σ91 a0 a1 z92))
def g_M_keep (σ : ns_St) (a0 : Nat) (a1 : Nat) : Option (Unit × ns_St) := grd (ns_kd a0 = 9) <| grd (ns_kd a1 = 10) <| g_M_keep_2 ns_F σ a0 a1 (0 : Int32)
theorem t_M_keep_37 (G : ns_G) (l : Launch) {p : Program} {e : Env} {s : State} {m : MethodId} {args : Array Value} {below : List Frame} {meth : Method} {c : Code} (C : ns_Cx G p s m args meth c prog_11_method_80_code "NinthStepModel" 3) (hr : meth.sig.returnType = none) {r : Unit} {σ' : ns_St}  : ∀ (f : Nat) (σ : ns_St) (a0 : Nat) (a1 : Nat) (x2 : Int32) (hk_a0 : ns_kd a0 = 9) (hk_a1 : ns_kd a1 = 10), g_M_keep_37 f σ a0 a1 x2 = some (r, σ') → VV G p l e { frames := 0, cells := 0, slots := 0, locals := 0 } s m args below meth c 3 0 0 (MQ below (ns_Qc G none ns_N σ') args s 0 0 (ns_A G)) ns_N σ 37 [(0, .ref (G.1 + a0)), (1, .ref (G.1 + a1)), (2, .int x2)] [] := by
  intro f
  induction f with
  | zero =>
    intro σ a0 a1 x2 hk_a0 hk_a1 hf
    cases hf
  | succ f ih =>
    intro σ a0 a1 x2 hk_a0 hk_a1 hf
    rw [g_M_keep_37] at hf
    refine v_iload_n C 2 2 rfl 38 rfl (by decide +kernel) ?_
    refine v_bipush C (6) (6) (by decide) 40 rfl (by decide +kernel) ?_
    refine v_icmp_ge C 121 43 rfl (by decide +kernel) (fun h47 => ?_) (fun h47 => ?_)
    · have hf := ite2_t hf h47
      refine v_aload_n C 1 1 rfl 122 rfl (by decide +kernel) ?_
      refine v_bipush C (97) (97) (by decide) 124 rfl (by decide +kernel) ?_
      refine v_aload_n C 0 0 rfl 125 rfl (by decide +kernel) ?_
      refine v_getI C 9 3 rfl nin_9 (ns_kd_lt hk_a0 (by decide)) hk_a0 (by decide) (by decide) rfl 59 tw_978 rfl 128 rfl (by decide +kernel) ?_
      obtain ⟨hi48, hf⟩ := grd_e hf
      obtain ⟨σ49, hσ49, hf⟩ := bnd_e hf
      refine v_iast C hσ49 (ns_kd_lt hk_a1 (by decide)) hk_a1 hi48 129 rfl (by decide +kernel) ?_
      refine v_aload_n C 1 1 rfl 130 rfl (by decide +kernel) ?_
      refine v_bipush C (98) (98) (by decide) 132 rfl (by decide +kernel) ?_
      refine v_aload_n C 0 0 rfl 133 rfl (by decide +kernel) ?_
      refine v_getI C 9 5 rfl nin_9 (ns_kd_lt hk_a0 (by decide)) hk_a0 (by decide) (by decide) rfl 66 tw_980 rfl 136 rfl (by decide +kernel) ?_
      obtain ⟨hi50, hf⟩ := grd_e hf
      obtain ⟨σ51, hσ51, hf⟩ := bnd_e hf
      refine v_iast C hσ51 (ns_kd_lt hk_a1 (by decide)) hk_a1 hi50 137 rfl (by decide +kernel) ?_
      refine v_aload_n C 1 1 rfl 138 rfl (by decide +kernel) ?_
      refine v_bipush C (99) (99) (by decide) 140 rfl (by decide +kernel) ?_
      refine v_aload_n C 0 0 rfl 141 rfl (by decide +kernel) ?_
      refine v_getI C 9 12 rfl nin_9 (ns_kd_lt hk_a0 (by decide)) hk_a0 (by decide) (by decide) rfl 119 tw_987 rfl 144 rfl (by decide +kernel) ?_
      obtain ⟨hi52, hf⟩ := grd_e hf
      obtain ⟨σ53, hσ53, hf⟩ := bnd_e hf
      refine v_iast C hσ53 (ns_kd_lt hk_a1 (by decide)) hk_a1 hi52 145 rfl (by decide +kernel) ?_
      refine v_aload_n C 1 1 rfl 146 rfl (by decide +kernel) ?_
      refine v_bipush C (100) (100) (by decide) 148 rfl (by decide +kernel) ?_
      refine v_aload_n C 0 0 rfl 149 rfl (by decide +kernel) ?_
      refine v_getI C 9 13 rfl nin_9 (ns_kd_lt hk_a0 (by decide)) hk_a0 (by decide) (by decide) rfl 249 tw_988 rfl 152 rfl (by decide +kernel) ?_
      obtain ⟨hi54, hf⟩ := grd_e hf
      obtain ⟨σ55, hσ55, hf⟩ := bnd_e hf
      refine v_iast C hσ55 (ns_kd_lt hk_a1 (by decide)) hk_a1 hi54 153 rfl (by decide +kernel) ?_
      refine v_aload_n C 1 1 rfl 154 rfl (by decide +kernel) ?_
      refine v_bipush C (101) (101) (by decide) 156 rfl (by decide +kernel) ?_
      refine v_aload_n C 0 0 rfl 157 rfl (by decide +kernel) ?_
      refine v_getI C 9 14 rfl nin_9 (ns_kd_lt hk_a0 (by decide)) hk_a0 (by decide) (by decide) rfl 63 tw_989 rfl 160 rfl (by decide +kernel) ?_
      obtain ⟨hi56, hf⟩ := grd_e hf
      obtain ⟨σ57, hσ57, hf⟩ := bnd_e hf
      refine v_iast C hσ57 (ns_kd_lt hk_a1 (by decide)) hk_a1 hi56 161 rfl (by decide +kernel) ?_
      obtain ⟨rfl, rfl⟩ := ret_e hf
      exact v_vret C hr (by decide +kernel)
    · have hf := ite2_f hf h47
      refine v_aload_n C 1 1 rfl 44 rfl (by decide +kernel) ?_
      refine v_bipush C (61) (61) (by decide) 46 rfl (by decide +kernel) ?_
      refine v_iload_n C 2 2 rfl 47 rfl (by decide +kernel) ?_
      refine v_iadd C 48 rfl (by decide +kernel) ?_
      refine v_aload_n C 0 0 rfl 49 rfl (by decide +kernel) ?_
      obtain ⟨b58, hb58, hf⟩ := drf_e hf
      obtain ⟨hk_b58, hf⟩ := grd_e hf
      refine v_getR C 9 6 hb58 rfl nin_9 (ns_kd_lt hk_a0 (by decide)) hk_a0 (by decide) (by decide) rfl 23 tw_981 rfl 52 rfl (by decide +kernel) ?_
      refine v_iload_n C 2 2 rfl 53 rfl (by decide +kernel) ?_
      obtain ⟨hi59, hf⟩ := grd_e hf
      refine v_iald C (ns_kd_lt hk_b58 (by decide)) hk_b58 hi59 54 rfl (by decide +kernel) ?_
      obtain ⟨hi60, hf⟩ := grd_e hf
      obtain ⟨σ61, hσ61, hf⟩ := bnd_e hf
      refine v_iast C hσ61 (ns_kd_lt hk_a1 (by decide)) hk_a1 hi60 55 rfl (by decide +kernel) ?_
      refine v_aload_n C 1 1 rfl 56 rfl (by decide +kernel) ?_
      refine v_bipush C (67) (67) (by decide) 58 rfl (by decide +kernel) ?_
      refine v_iload_n C 2 2 rfl 59 rfl (by decide +kernel) ?_
      refine v_iadd C 60 rfl (by decide +kernel) ?_
      refine v_aload_n C 0 0 rfl 61 rfl (by decide +kernel) ?_
      obtain ⟨b62, hb62, hf⟩ := drf_e hf
      obtain ⟨hk_b62, hf⟩ := grd_e hf
      refine v_getR C 9 7 hb62 rfl nin_9 (ns_kd_lt hk_a0 (by decide)) hk_a0 (by decide) (by decide) rfl 26 tw_982 rfl 64 rfl (by decide +kernel) ?_
      refine v_iload_n C 2 2 rfl 65 rfl (by decide +kernel) ?_
      obtain ⟨hi63, hf⟩ := grd_e hf
      refine v_iald C (ns_kd_lt hk_b62 (by decide)) hk_b62 hi63 66 rfl (by decide +kernel) ?_
      obtain ⟨hi64, hf⟩ := grd_e hf
      obtain ⟨σ65, hσ65, hf⟩ := bnd_e hf
      refine v_iast C hσ65 (ns_kd_lt hk_a1 (by decide)) hk_a1 hi64 67 rfl (by decide +kernel) ?_
      refine v_aload_n C 1 1 rfl 68 rfl (by decide +kernel) ?_
      refine v_bipush C (73) (73) (by decide) 70 rfl (by decide +kernel) ?_
      refine v_iload_n C 2 2 rfl 71 rfl (by decide +kernel) ?_
      refine v_iadd C 72 rfl (by decide +kernel) ?_
      refine v_aload_n C 0 0 rfl 73 rfl (by decide +kernel) ?_
      obtain ⟨b66, hb66, hf⟩ := drf_e hf
      obtain ⟨hk_b66, hf⟩ := grd_e hf
      refine v_getR C 9 8 hb66 rfl nin_9 (ns_kd_lt hk_a0 (by decide)) hk_a0 (by decide) (by decide) rfl 29 tw_983 rfl 76 rfl (by decide +kernel) ?_
      refine v_iload_n C 2 2 rfl 77 rfl (by decide +kernel) ?_
      obtain ⟨hi67, hf⟩ := grd_e hf
      refine v_iald C (ns_kd_lt hk_b66 (by decide)) hk_b66 hi67 78 rfl (by decide +kernel) ?_
      obtain ⟨hi68, hf⟩ := grd_e hf
      obtain ⟨σ69, hσ69, hf⟩ := bnd_e hf
      refine v_iast C hσ69 (ns_kd_lt hk_a1 (by decide)) hk_a1 hi68 79 rfl (by decide +kernel) ?_
      refine v_aload_n C 1 1 rfl 80 rfl (by decide +kernel) ?_
      refine v_bipush C (79) (79) (by decide) 82 rfl (by decide +kernel) ?_
      refine v_iload_n C 2 2 rfl 83 rfl (by decide +kernel) ?_
      refine v_iadd C 84 rfl (by decide +kernel) ?_
      refine v_aload_n C 0 0 rfl 85 rfl (by decide +kernel) ?_
      obtain ⟨b70, hb70, hf⟩ := drf_e hf
      obtain ⟨hk_b70, hf⟩ := grd_e hf
      refine v_getR C 9 9 hb70 rfl nin_9 (ns_kd_lt hk_a0 (by decide)) hk_a0 (by decide) (by decide) rfl 32 tw_984 rfl 88 rfl (by decide +kernel) ?_
      refine v_iload_n C 2 2 rfl 89 rfl (by decide +kernel) ?_
      obtain ⟨hi71, hf⟩ := grd_e hf
      refine v_iald C (ns_kd_lt hk_b70 (by decide)) hk_b70 hi71 90 rfl (by decide +kernel) ?_
      obtain ⟨hi72, hf⟩ := grd_e hf
      obtain ⟨σ73, hσ73, hf⟩ := bnd_e hf
      refine v_iast C hσ73 (ns_kd_lt hk_a1 (by decide)) hk_a1 hi72 91 rfl (by decide +kernel) ?_
      refine v_aload_n C 1 1 rfl 92 rfl (by decide +kernel) ?_
      refine v_bipush C (85) (85) (by decide) 94 rfl (by decide +kernel) ?_
      refine v_iload_n C 2 2 rfl 95 rfl (by decide +kernel) ?_
      refine v_iadd C 96 rfl (by decide +kernel) ?_
      refine v_aload_n C 0 0 rfl 97 rfl (by decide +kernel) ?_
      obtain ⟨b74, hb74, hf⟩ := drf_e hf
      obtain ⟨hk_b74, hf⟩ := grd_e hf
      refine v_getR C 9 10 hb74 rfl nin_9 (ns_kd_lt hk_a0 (by decide)) hk_a0 (by decide) (by decide) rfl 35 tw_985 rfl 100 rfl (by decide +kernel) ?_
      refine v_iload_n C 2 2 rfl 101 rfl (by decide +kernel) ?_
      obtain ⟨hi75, hf⟩ := grd_e hf
      refine v_iald C (ns_kd_lt hk_b74 (by decide)) hk_b74 hi75 102 rfl (by decide +kernel) ?_
      obtain ⟨hi76, hf⟩ := grd_e hf
      obtain ⟨σ77, hσ77, hf⟩ := bnd_e hf
      refine v_iast C hσ77 (ns_kd_lt hk_a1 (by decide)) hk_a1 hi76 103 rfl (by decide +kernel) ?_
      refine v_aload_n C 1 1 rfl 104 rfl (by decide +kernel) ?_
      refine v_bipush C (91) (91) (by decide) 106 rfl (by decide +kernel) ?_
      refine v_iload_n C 2 2 rfl 107 rfl (by decide +kernel) ?_
      refine v_iadd C 108 rfl (by decide +kernel) ?_
      refine v_aload_n C 0 0 rfl 109 rfl (by decide +kernel) ?_
      obtain ⟨b78, hb78, hf⟩ := drf_e hf
      obtain ⟨hk_b78, hf⟩ := grd_e hf
      refine v_getR C 9 11 hb78 rfl nin_9 (ns_kd_lt hk_a0 (by decide)) hk_a0 (by decide) (by decide) rfl 38 tw_986 rfl 112 rfl (by decide +kernel) ?_
      refine v_iload_n C 2 2 rfl 113 rfl (by decide +kernel) ?_
      obtain ⟨hi79, hf⟩ := grd_e hf
      refine v_iald C (ns_kd_lt hk_b78 (by decide)) hk_b78 hi79 114 rfl (by decide +kernel) ?_
      obtain ⟨hi80, hf⟩ := grd_e hf
      obtain ⟨σ81, hσ81, hf⟩ := bnd_e hf
      refine v_iast C hσ81 (ns_kd_lt hk_a1 (by decide)) hk_a1 hi80 115 rfl (by decide +kernel) ?_
      obtain ⟨z82, hz82, hf⟩ := bnd_e hf
      refine v_iinc C 2 (1) 2 z82 rfl (by rw [hz82]; rfl) [(2, .int z82), (0, .ref (G.1 + a0)), (1, .ref (G.1 + a1))] (by decide) rfl 118 rfl (by decide +kernel) ?_
      refine v_goto C 37 (by decide +kernel) ?_
      refine v_sub [1, 2, 0] rfl ?_
      exact ih σ81 a0 a1 z82 hk_a0 hk_a1 hf
theorem t_M_keep_2 (G : ns_G) (l : Launch) {p : Program} {e : Env} {s : State} {m : MethodId} {args : Array Value} {below : List Frame} {meth : Method} {c : Code} (C : ns_Cx G p s m args meth c prog_11_method_80_code "NinthStepModel" 3) (hr : meth.sig.returnType = none) {r : Unit} {σ' : ns_St}  : ∀ (f : Nat) (σ : ns_St) (a0 : Nat) (a1 : Nat) (x2 : Int32) (hk_a0 : ns_kd a0 = 9) (hk_a1 : ns_kd a1 = 10), g_M_keep_2 f σ a0 a1 x2 = some (r, σ') → VV G p l e { frames := 0, cells := 0, slots := 0, locals := 0 } s m args below meth c 3 0 0 (MQ below (ns_Qc G none ns_N σ') args s 0 0 (ns_A G)) ns_N σ 2 [(0, .ref (G.1 + a0)), (1, .ref (G.1 + a1)), (2, .int x2)] [] := by
  intro f
  induction f with
  | zero =>
    intro σ a0 a1 x2 hk_a0 hk_a1 hf
    cases hf
  | succ f ih =>
    intro σ a0 a1 x2 hk_a0 hk_a1 hf
    rw [g_M_keep_2] at hf
    refine v_iload_n C 2 2 rfl 3 rfl (by decide +kernel) ?_
    refine v_bipush C (61) (61) (by decide) 5 rfl (by decide +kernel) ?_
    refine v_icmp_ge C 35 8 rfl (by decide +kernel) (fun h83 => ?_) (fun h83 => ?_)
    · have hf := ite2_t hf h83
      refine v_iconst C (0) (0) (by decide) 36 rfl (by decide +kernel) ?_
      refine v_istore_n C 2 [(2, .int (0 : Int32)), (0, .ref (G.1 + a0)), (1, .ref (G.1 + a1))] (by decide) rfl 37 rfl (by decide +kernel) ?_
      refine v_sub [1, 2, 0] rfl ?_
      exact t_M_keep_37 G l C hr  ns_F σ a0 a1 (0 : Int32) hk_a0 hk_a1 hf
    · have hf := ite2_f hf h83
      refine v_aload_n C 1 1 rfl 9 rfl (by decide +kernel) ?_
      refine v_iload_n C 2 2 rfl 10 rfl (by decide +kernel) ?_
      refine v_iload_n C 2 2 rfl 11 rfl (by decide +kernel) ?_
      refine v_aload_n C 0 0 rfl 12 rfl (by decide +kernel) ?_
      refine v_getI C 9 3 rfl nin_9 (ns_kd_lt hk_a0 (by decide)) hk_a0 (by decide) (by decide) rfl 59 tw_978 rfl 15 rfl (by decide +kernel) ?_
      refine v_icmp_gt C 27 18 rfl (by decide +kernel) (fun h84 => ?_) (fun h84 => ?_)
      · have hf := ite2_t hf h84
        refine v_iconst C (0) (0) (by decide) 28 rfl (by decide +kernel) ?_
        obtain ⟨hi85, hf⟩ := grd_e hf
        obtain ⟨σ86, hσ86, hf⟩ := bnd_e hf
        refine v_iast C hσ86 (ns_kd_lt hk_a1 (by decide)) hk_a1 hi85 29 rfl (by decide +kernel) ?_
        obtain ⟨z87, hz87, hf⟩ := bnd_e hf
        refine v_iinc C 2 (1) 2 z87 rfl (by rw [hz87]; rfl) [(2, .int z87), (0, .ref (G.1 + a0)), (1, .ref (G.1 + a1))] (by decide) rfl 32 rfl (by decide +kernel) ?_
        refine v_goto C 2 (by decide +kernel) ?_
        refine v_sub [1, 2, 0] rfl ?_
        exact ih σ86 a0 a1 z87 hk_a0 hk_a1 hf
      · have hf := ite2_f hf h84
        refine v_aload_n C 0 0 rfl 19 rfl (by decide +kernel) ?_
        obtain ⟨b88, hb88, hf⟩ := drf_e hf
        obtain ⟨hk_b88, hf⟩ := grd_e hf
        refine v_getR C 9 4 hb88 rfl nin_9 (ns_kd_lt hk_a0 (by decide)) hk_a0 (by decide) (by decide) rfl 20 tw_979 rfl 22 rfl (by decide +kernel) ?_
        refine v_iload_n C 2 2 rfl 23 rfl (by decide +kernel) ?_
        obtain ⟨hi89, hf⟩ := grd_e hf
        refine v_iald C (ns_kd_lt hk_b88 (by decide)) hk_b88 hi89 24 rfl (by decide +kernel) ?_
        refine v_goto C 28 (by decide +kernel) ?_
        obtain ⟨hi90, hf⟩ := grd_e hf
        obtain ⟨σ91, hσ91, hf⟩ := bnd_e hf
        refine v_iast C hσ91 (ns_kd_lt hk_a1 (by decide)) hk_a1 hi90 29 rfl (by decide +kernel) ?_
        obtain ⟨z92, hz92, hf⟩ := bnd_e hf
        refine v_iinc C 2 (1) 2 z92 rfl (by rw [hz92]; rfl) [(2, .int z92), (0, .ref (G.1 + a0)), (1, .ref (G.1 + a1))] (by decide) rfl 32 rfl (by decide +kernel) ?_
        refine v_goto C 2 (by decide +kernel) ?_
        refine v_sub [1, 2, 0] rfl ?_
        exact ih σ91 a0 a1 z92 hk_a0 hk_a1 hf
theorem c_M_keep (G : ns_G) (l : Launch) (σ : ns_St) (a0 : Nat) (a1 : Nat) {r : Unit} {σ' : ns_St} (hf : g_M_keep σ a0 a1 = some (r, σ')) : ns_ok G l ⟨"NinthStepModel", "keep", "([I)V"⟩ prog_11_method_80_code 3 none 0 0 0 0 [.ref (G.1 + a0), .ref (G.1 + a1)] ns_N σ none ns_N σ' := by
  refine v_open (by decide) (Nat.le_of_ble_eq_true rfl) rfl ?_
  intro p e s m below meth c C hr _
  have C : ns_Cx G p s m _ meth c prog_11_method_80_code "NinthStepModel" 3 := C
  unfold g_M_keep at hf
  obtain ⟨hk_a0, hf⟩ := grd_e hf
  obtain ⟨hk_a1, hf⟩ := grd_e hf
  refine v_iconst C (0) (0) (by decide) 1 rfl (by decide +kernel) ?_
  refine v_istore_n C 2 [(2, .int (0 : Int32)), (0, .ref (G.1 + a0)), (1, .ref (G.1 + a1))] (by decide) rfl 2 rfl (by decide +kernel) ?_
  refine v_sub [1, 2, 0] rfl ?_
  exact t_M_keep_2 G l C hr  ns_F σ a0 a1 (0 : Int32) hk_a0 hk_a1 hf
theorem hd_M_keep : (⟨"NinthStepModel", "keep", "([I)V"⟩ : MethodName).cls = "NinthStepModel" ∧ (⟨"NinthStepModel", "keep", "([I)V"⟩ : MethodName).cls ≠ "java/lang/invoke/MethodHandle" ∧ (⟨"NinthStepModel", "keep", "([I)V"⟩ : MethodName).cls ≠ "java/lang/invoke/VarHandle" ∧ (parseMethodDescriptor (⟨"NinthStepModel", "keep", "([I)V"⟩ : MethodName).desc).map (fun d => d.parameters.length) = some 1 := by decide +kernel
def g_M_isLetter (σ : ns_St) (x0 : Int32) : Option (Int32 × ns_St) := ite2 (x0 < (97 : Int32)) (some ((0 : Int32), σ)) (ite2 ((122 : Int32) < x0) (some ((0 : Int32), σ)) (some ((1 : Int32), σ)))
theorem c_M_isLetter (G : ns_G) (l : Launch) (σ : ns_St) (x0 : Int32) {r : Int32} {σ' : ns_St} (hf : g_M_isLetter σ x0 = some (r, σ')) : ns_ok G l ⟨"NinthStepModel", "isLetter", "(I)Z"⟩ prog_11_method_30_code 1 (some .boolean) 0 0 0 0 [.int x0] ns_N σ (some (.int r)) ns_N σ' := by
  refine v_open (by decide) (Nat.le_of_ble_eq_true rfl) rfl ?_
  intro p e s m below meth c C hr _
  have C : ns_Cx G p s m _ meth c prog_11_method_30_code "NinthStepModel" 1 := C
  unfold g_M_isLetter at hf
  refine v_iload_n C 0 0 rfl 1 rfl (by decide +kernel) ?_
  refine v_bipush C (97) (97) (by decide) 3 rfl (by decide +kernel) ?_
  refine v_icmp_lt C 16 6 rfl (by decide +kernel) (fun h3 => ?_) (fun h3 => ?_)
  · have hf := ite2_t hf h3
    refine v_iconst C (0) (0) (by decide) 17 rfl (by decide +kernel) ?_
    obtain ⟨rfl, rfl⟩ := ret_e hf
    exact v_zret C hr rfl (by decide +kernel)
  · have hf := ite2_f hf h3
    refine v_iload_n C 0 0 rfl 7 rfl (by decide +kernel) ?_
    refine v_bipush C (122) (122) (by decide) 9 rfl (by decide +kernel) ?_
    refine v_icmp_gt C 16 12 rfl (by decide +kernel) (fun h4 => ?_) (fun h4 => ?_)
    · have hf := ite2_t hf h4
      refine v_iconst C (0) (0) (by decide) 17 rfl (by decide +kernel) ?_
      obtain ⟨rfl, rfl⟩ := ret_e hf
      exact v_zret C hr rfl (by decide +kernel)
    · have hf := ite2_f hf h4
      refine v_iconst C (1) (1) (by decide) 13 rfl (by decide +kernel) ?_
      refine v_goto C 17 (by decide +kernel) ?_
      obtain ⟨rfl, rfl⟩ := ret_e hf
      exact v_zret C hr rfl (by decide +kernel)
theorem hd_M_isLetter : (⟨"NinthStepModel", "isLetter", "(I)Z"⟩ : MethodName).cls ≠ "java/lang/invoke/MethodHandle" ∧ (⟨"NinthStepModel", "isLetter", "(I)Z"⟩ : MethodName).cls ≠ "java/lang/invoke/VarHandle" ∧ (parseMethodDescriptor (⟨"NinthStepModel", "isLetter", "(I)Z"⟩ : MethodName).desc).map (fun d => d.parameters.length) = some 1 := by decide +kernel
def g_M_isDigit (σ : ns_St) (x0 : Int32) : Option (Int32 × ns_St) := ite2 (x0 < (48 : Int32)) (some ((0 : Int32), σ)) (ite2 ((57 : Int32) < x0) (some ((0 : Int32), σ)) (some ((1 : Int32), σ)))
theorem c_M_isDigit (G : ns_G) (l : Launch) (σ : ns_St) (x0 : Int32) {r : Int32} {σ' : ns_St} (hf : g_M_isDigit σ x0 = some (r, σ')) : ns_ok G l ⟨"NinthStepModel", "isDigit", "(I)Z"⟩ prog_11_method_31_code 1 (some .boolean) 0 0 0 0 [.int x0] ns_N σ (some (.int r)) ns_N σ' := by
  refine v_open (by decide) (Nat.le_of_ble_eq_true rfl) rfl ?_
  intro p e s m below meth c C hr _
  have C : ns_Cx G p s m _ meth c prog_11_method_31_code "NinthStepModel" 1 := C
  unfold g_M_isDigit at hf
  refine v_iload_n C 0 0 rfl 1 rfl (by decide +kernel) ?_
  refine v_bipush C (48) (48) (by decide) 3 rfl (by decide +kernel) ?_
  refine v_icmp_lt C 16 6 rfl (by decide +kernel) (fun h3 => ?_) (fun h3 => ?_)
  · have hf := ite2_t hf h3
    refine v_iconst C (0) (0) (by decide) 17 rfl (by decide +kernel) ?_
    obtain ⟨rfl, rfl⟩ := ret_e hf
    exact v_zret C hr rfl (by decide +kernel)
  · have hf := ite2_f hf h3
    refine v_iload_n C 0 0 rfl 7 rfl (by decide +kernel) ?_
    refine v_bipush C (57) (57) (by decide) 9 rfl (by decide +kernel) ?_
    refine v_icmp_gt C 16 12 rfl (by decide +kernel) (fun h4 => ?_) (fun h4 => ?_)
    · have hf := ite2_t hf h4
      refine v_iconst C (0) (0) (by decide) 17 rfl (by decide +kernel) ?_
      obtain ⟨rfl, rfl⟩ := ret_e hf
      exact v_zret C hr rfl (by decide +kernel)
    · have hf := ite2_f hf h4
      refine v_iconst C (1) (1) (by decide) 13 rfl (by decide +kernel) ?_
      refine v_goto C 17 (by decide +kernel) ?_
      obtain ⟨rfl, rfl⟩ := ret_e hf
      exact v_zret C hr rfl (by decide +kernel)
theorem hd_M_isDigit : (⟨"NinthStepModel", "isDigit", "(I)Z"⟩ : MethodName).cls ≠ "java/lang/invoke/MethodHandle" ∧ (⟨"NinthStepModel", "isDigit", "(I)Z"⟩ : MethodName).cls ≠ "java/lang/invoke/VarHandle" ∧ (parseMethodDescriptor (⟨"NinthStepModel", "isDigit", "(I)Z"⟩ : MethodName).desc).map (fun d => d.parameters.length) = some 1 := by decide +kernel
def g_M_next_252  (σ : ns_St) (s0 : Nat) (s1 : Int32) (a0 : Nat) : Option (Unit × ns_St) := bnd (ns_pI σ s0 19 s1) fun σ44 => bnd (ns_pI σ44 a0 17 ((σ44.1 a0 17) + (1 : Int32))) fun σ45 => some ((), σ45)
def g_M_next_217  (σ : ns_St) (a0 : Nat) : Option (Unit × ns_St) := ite2 (((σ.1 a0 17) - (σ.1 a0 18)) ≤ (2 : Int32)) (some ((), σ)) (bnd (ns_pI σ a0 20 (1000 : Int32)) fun σ47 => some ((), σ47))
def g_M_next_204 (kh141 : ns_St → Nat → Option (Unit × ns_St)) (σ : ns_St) (a0 : Nat) : Option (Unit × ns_St) := bnd (ns_pI σ a0 17 ((σ.1 a0 17) + (1 : Int32))) fun σ48 => kh141 σ48 a0
def g_M_next_141  : Nat → ns_St → Nat → Option (Unit × ns_St)
  | 0, _, _ => none
  | f + 1, σ, a0 => ite2 ((σ.1 a0 15) ≤ (σ.1 a0 17)) (g_M_next_217 σ a0) (drf (σ.2.2 a0 16) fun b50 => grd (ns_kd b50 = 10) <| grd (ns_in (σ.1 a0 17) (ns_ln b50)) <| cl2 (g_M_isDigit σ (σ.1 b50 (ns_ix (σ.1 a0 17)))) fun r53 σ52 => ite2 (r53 = 0) (g_M_next_217 σ52 a0) (ite2 ((3 : Int32) ≤ ((σ52.1 a0 17) - (σ52.1 a0 18))) (g_M_next_204 (g_M_next_141 f) σ52 a0) (drf (σ52.2.2 a0 16) fun b56 => grd (ns_kd b56 = 10) <| grd (ns_in (σ52.1 a0 17) (ns_ln b56)) <| bnd (ns_pI σ52 a0 20 ((((10 : Int32) * (σ52.1 a0 20)) + (σ52.1 b56 (ns_ix (σ52.1 a0 17)))) - (48 : Int32))) fun σ58 => g_M_next_204 (g_M_next_141 f) σ58 a0)))
def g_M_next_85  : Nat → ns_St → Nat → Option (Unit × ns_St)
  | 0, _, _ => none
  | f + 1, σ, a0 => ite2 ((σ.1 a0 15) ≤ (σ.1 a0 17)) (some ((), σ)) (drf (σ.2.2 a0 16) fun b60 => grd (ns_kd b60 = 10) <| grd (ns_in (σ.1 a0 17) (ns_ln b60)) <| cl2 (g_M_isLetter σ (σ.1 b60 (ns_ix (σ.1 a0 17)))) fun r63 σ62 => ite2 (r63 = 0) (some ((), σ62)) (bnd (ns_pI σ62 a0 17 ((σ62.1 a0 17) + (1 : Int32))) fun σ65 => (g_M_next_85 f) σ65 a0))
def g_M_next_38  (σ : ns_St) (a0 : Nat) : Option (Unit × ns_St) := bnd (ns_pI σ a0 18 (σ.1 a0 17)) fun σ66 => ite2 ((σ66.1 a0 17) = (σ66.1 a0 15)) (bnd (ns_pI σ66 a0 19 (0 : Int32)) fun σ81 => some ((), σ81)) (drf (σ66.2.2 a0 16) fun b68 => grd (ns_kd b68 = 10) <| grd (ns_in (σ66.1 a0 17) (ns_ln b68)) <| bnd (σ66.1 b68 (ns_ix (σ66.1 a0 17))) fun z70 => cl2 (g_M_isLetter σ66 z70) fun r72 σ71 => ite2 (r72 = 0) (cl2 (g_M_isDigit σ71 z70) fun r75 σ74 => ite2 (r75 = 0) (ite2 (z70 = (59 : Int32)) (g_M_next_252 σ74 a0 (3 : Int32) a0) (g_M_next_252 σ74 a0 (-1 : Int32) a0)) (bnd (ns_pI σ74 a0 19 (2 : Int32)) fun σ78 => bnd (ns_pI σ78 a0 20 (0 : Int32)) fun σ79 => g_M_next_141 ns_F σ79 a0)) (bnd (ns_pI σ71 a0 19 (1 : Int32)) fun σ80 => g_M_next_85 ns_F σ80 a0))
def g_M_next_0  : Nat → ns_St → Nat → Option (Unit × ns_St)
  | 0, _, _ => none
  | f + 1, σ, a0 => ite2 ((σ.1 a0 15) ≤ (σ.1 a0 17)) (g_M_next_38 σ a0) (drf (σ.2.2 a0 16) fun b83 => grd (ns_kd b83 = 10) <| grd (ns_in (σ.1 a0 17) (ns_ln b83)) <| ite2 ((σ.1 b83 (ns_ix (σ.1 a0 17))) = (32 : Int32)) (bnd (ns_pI σ a0 17 ((σ.1 a0 17) + (1 : Int32))) fun σ86 => (g_M_next_0 f) σ86 a0) (g_M_next_38 σ a0))
def g_M_next (σ : ns_St) (a0 : Nat) : Option (Unit × ns_St) := grd (ns_kd a0 = 9) <| g_M_next_0 ns_F σ a0
theorem t_M_next_252 (G : ns_G) (l : Launch) {p : Program} {e : Env} {s : State} {m : MethodId} {args : Array Value} {below : List Frame} {meth : Method} {c : Code} (C : ns_Cx G p s m args meth c prog_11_method_32_code "NinthStepModel" 2) (hr : meth.sig.returnType = none) {r : Unit} {σ' : ns_St}  (σ : ns_St) (s0 : Nat) (s1 : Int32) (a0 : Nat) (hk_s0 : ns_kd s0 = 9) (hk_a0 : ns_kd a0 = 9) (hf : g_M_next_252 σ s0 s1 a0 = some (r, σ')) : VV G p l e { frames := 1, cells := 0, slots := 0, locals := 20 } s m args below meth c 2 0 0 (MQ below (ns_Qc G none ns_N σ') args s 0 0 (ns_A G)) ns_N σ 252 [(0, .ref (G.1 + a0))] [.int s1, .ref (G.1 + s0)] := by
  unfold g_M_next_252 at hf
  obtain ⟨σ44, hσ44, hf⟩ := bnd_e hf
  refine v_putI C 9 19 hσ44 rfl nin_9 ny_9 nty_9 nnm_9 (ns_kd_lt hk_s0 (by decide)) hk_s0 (by decide) (by decide) rfl rfl rfl rfl 131 tw_994 rfl 255 rfl (by decide +kernel) ?_
  refine v_aload_n C 0 0 rfl 256 rfl (by decide +kernel) ?_
  refine v_dup C rfl 257 rfl (by decide +kernel) ?_
  refine v_getI C 9 17 rfl nin_9 (ns_kd_lt hk_a0 (by decide)) hk_a0 (by decide) (by decide) rfl 125 tw_992 rfl 260 rfl (by decide +kernel) ?_
  refine v_iconst C (1) (1) (by decide) 261 rfl (by decide +kernel) ?_
  refine v_iadd C 262 rfl (by decide +kernel) ?_
  obtain ⟨σ45, hσ45, hf⟩ := bnd_e hf
  refine v_putI C 9 17 hσ45 rfl nin_9 ny_9 nty_9 nnm_9 (ns_kd_lt hk_a0 (by decide)) hk_a0 (by decide) (by decide) rfl rfl rfl rfl 125 tw_992 rfl 265 rfl (by decide +kernel) ?_
  obtain ⟨rfl, rfl⟩ := ret_e hf
  exact v_vret C hr (by decide +kernel)
theorem t_M_next_217 (G : ns_G) (l : Launch) {p : Program} {e : Env} {s : State} {m : MethodId} {args : Array Value} {below : List Frame} {meth : Method} {c : Code} (C : ns_Cx G p s m args meth c prog_11_method_32_code "NinthStepModel" 2) (hr : meth.sig.returnType = none) {r : Unit} {σ' : ns_St}  (σ : ns_St) (a0 : Nat) (hk_a0 : ns_kd a0 = 9) (hf : g_M_next_217 σ a0 = some (r, σ')) : VV G p l e { frames := 1, cells := 0, slots := 0, locals := 20 } s m args below meth c 2 0 0 (MQ below (ns_Qc G none ns_N σ') args s 0 0 (ns_A G)) ns_N σ 217 [(0, .ref (G.1 + a0))] [] := by
  unfold g_M_next_217 at hf
  refine v_aload_n C 0 0 rfl 218 rfl (by decide +kernel) ?_
  refine v_getI C 9 17 rfl nin_9 (ns_kd_lt hk_a0 (by decide)) hk_a0 (by decide) (by decide) rfl 125 tw_992 rfl 221 rfl (by decide +kernel) ?_
  refine v_aload_n C 0 0 rfl 222 rfl (by decide +kernel) ?_
  refine v_getI C 9 18 rfl nin_9 (ns_kd_lt hk_a0 (by decide)) hk_a0 (by decide) (by decide) rfl 128 tw_993 rfl 225 rfl (by decide +kernel) ?_
  refine v_isub C 226 rfl (by decide +kernel) ?_
  refine v_iconst C (2) (2) (by decide) 227 rfl (by decide +kernel) ?_
  refine v_icmp_le C 265 230 rfl (by decide +kernel) (fun h46 => ?_) (fun h46 => ?_)
  · have hf := ite2_t hf h46
    obtain ⟨rfl, rfl⟩ := ret_e hf
    exact v_vret C hr (by decide +kernel)
  · have hf := ite2_f hf h46
    refine v_aload_n C 0 0 rfl 231 rfl (by decide +kernel) ?_
    refine v_sipush C (1000) (1000) (by decide) 234 rfl (by decide +kernel) ?_
    obtain ⟨σ47, hσ47, hf⟩ := bnd_e hf
    refine v_putI C 9 20 hσ47 rfl nin_9 ny_9 nty_9 nnm_9 (ns_kd_lt hk_a0 (by decide)) hk_a0 (by decide) (by decide) rfl rfl rfl rfl 140 tw_995 rfl 237 rfl (by decide +kernel) ?_
    refine v_goto C 265 (by decide +kernel) ?_
    obtain ⟨rfl, rfl⟩ := ret_e hf
    exact v_vret C hr (by decide +kernel)
theorem t_M_next_204 (G : ns_G) (l : Launch) {p : Program} {e : Env} {s : State} {m : MethodId} {args : Array Value} {below : List Frame} {meth : Method} {c : Code} (C : ns_Cx G p s m args meth c prog_11_method_32_code "NinthStepModel" 2) (hr : meth.sig.returnType = none) {r : Unit} {σ' : ns_St} {kh141 : ns_St → Nat → Option (Unit × ns_St)} (hkh141 : ∀ (σ : ns_St) (a0 : Nat), ns_kd a0 = 9 → kh141 σ a0 = some (r, σ') → VV G p l e { frames := 1, cells := 0, slots := 0, locals := 20 } s m args below meth c 2 0 0 (MQ below (ns_Qc G none ns_N σ') args s 0 0 (ns_A G)) ns_N σ 141 [(0, .ref (G.1 + a0))] []) (σ : ns_St) (a0 : Nat) (hk_a0 : ns_kd a0 = 9) (hf : g_M_next_204 kh141 σ a0 = some (r, σ')) : VV G p l e { frames := 1, cells := 0, slots := 0, locals := 20 } s m args below meth c 2 0 0 (MQ below (ns_Qc G none ns_N σ') args s 0 0 (ns_A G)) ns_N σ 204 [(0, .ref (G.1 + a0))] [] := by
  unfold g_M_next_204 at hf
  refine v_aload_n C 0 0 rfl 205 rfl (by decide +kernel) ?_
  refine v_dup C rfl 206 rfl (by decide +kernel) ?_
  refine v_getI C 9 17 rfl nin_9 (ns_kd_lt hk_a0 (by decide)) hk_a0 (by decide) (by decide) rfl 125 tw_992 rfl 209 rfl (by decide +kernel) ?_
  refine v_iconst C (1) (1) (by decide) 210 rfl (by decide +kernel) ?_
  refine v_iadd C 211 rfl (by decide +kernel) ?_
  obtain ⟨σ48, hσ48, hf⟩ := bnd_e hf
  refine v_putI C 9 17 hσ48 rfl nin_9 ny_9 nty_9 nnm_9 (ns_kd_lt hk_a0 (by decide)) hk_a0 (by decide) (by decide) rfl rfl rfl rfl 125 tw_992 rfl 214 rfl (by decide +kernel) ?_
  refine v_goto C 141 (by decide +kernel) ?_
  exact hkh141 σ48 a0 hk_a0 hf
theorem t_M_next_141 (G : ns_G) (l : Launch) {p : Program} {e : Env} {s : State} {m : MethodId} {args : Array Value} {below : List Frame} {meth : Method} {c : Code} (C : ns_Cx G p s m args meth c prog_11_method_32_code "NinthStepModel" 2) (hr : meth.sig.returnType = none) {r : Unit} {σ' : ns_St}  : ∀ (f : Nat) (σ : ns_St) (a0 : Nat) (hk_a0 : ns_kd a0 = 9), g_M_next_141 f σ a0 = some (r, σ') → VV G p l e { frames := 1, cells := 0, slots := 0, locals := 20 } s m args below meth c 2 0 0 (MQ below (ns_Qc G none ns_N σ') args s 0 0 (ns_A G)) ns_N σ 141 [(0, .ref (G.1 + a0))] [] := by
  intro f
  induction f with
  | zero =>
    intro σ a0 hk_a0 hf
    cases hf
  | succ f ih =>
    intro σ a0 hk_a0 hf
    rw [g_M_next_141] at hf
    refine v_aload_n C 0 0 rfl 142 rfl (by decide +kernel) ?_
    refine v_getI C 9 17 rfl nin_9 (ns_kd_lt hk_a0 (by decide)) hk_a0 (by decide) (by decide) rfl 125 tw_992 rfl 145 rfl (by decide +kernel) ?_
    refine v_aload_n C 0 0 rfl 146 rfl (by decide +kernel) ?_
    refine v_getI C 9 15 rfl nin_9 (ns_kd_lt hk_a0 (by decide)) hk_a0 (by decide) (by decide) rfl 122 tw_990 rfl 149 rfl (by decide +kernel) ?_
    refine v_icmp_ge C 217 152 rfl (by decide +kernel) (fun h49 => ?_) (fun h49 => ?_)
    · have hf := ite2_t hf h49
      exact t_M_next_217 G l C hr  σ a0 hk_a0 hf
    · have hf := ite2_f hf h49
      refine v_aload_n C 0 0 rfl 153 rfl (by decide +kernel) ?_
      obtain ⟨b50, hb50, hf⟩ := drf_e hf
      obtain ⟨hk_b50, hf⟩ := grd_e hf
      refine v_getR C 9 16 hb50 rfl nin_9 (ns_kd_lt hk_a0 (by decide)) hk_a0 (by decide) (by decide) rfl 41 tw_991 rfl 156 rfl (by decide +kernel) ?_
      refine v_aload_n C 0 0 rfl 157 rfl (by decide +kernel) ?_
      refine v_getI C 9 17 rfl nin_9 (ns_kd_lt hk_a0 (by decide)) hk_a0 (by decide) (by decide) rfl 125 tw_992 rfl 160 rfl (by decide +kernel) ?_
      obtain ⟨hi51, hf⟩ := grd_e hf
      refine v_iald C (ns_kd_lt hk_b50 (by decide)) hk_b50 hi51 161 rfl (by decide +kernel) ?_
      obtain ⟨r53, σ52, hcr53, hf⟩ := cl2_e hf
      refine v_cS C [.int (σ.1 b50 (ns_ix (σ.1 a0 17)))] [] (c_M_isDigit G l σ (σ.1 b50 (ns_ix (σ.1 a0 17))) hcr53) 137 1 tw_1200 tw_1198 tw_1199 tw_10 hd_M_isDigit rfl ⟨(Nat.le_of_ble_eq_true rfl), (Nat.le_of_ble_eq_true rfl)⟩ ⟨(Nat.le_of_ble_eq_true rfl), (Nat.le_of_ble_eq_true rfl)⟩ (Nat.le_of_ble_eq_true rfl) rfl 164 rfl (by decide +kernel) [.int r53] rfl ?_
      refine v_if_eq C 217 167 rfl (by decide +kernel) (fun h54 => ?_) (fun h54 => ?_)
      · have hf := ite2_t hf h54
        exact t_M_next_217 G l C hr  σ52 a0 hk_a0 hf
      · have hf := ite2_f hf h54
        refine v_aload_n C 0 0 rfl 168 rfl (by decide +kernel) ?_
        refine v_getI C 9 17 rfl nin_9 (ns_kd_lt hk_a0 (by decide)) hk_a0 (by decide) (by decide) rfl 125 tw_992 rfl 171 rfl (by decide +kernel) ?_
        refine v_aload_n C 0 0 rfl 172 rfl (by decide +kernel) ?_
        refine v_getI C 9 18 rfl nin_9 (ns_kd_lt hk_a0 (by decide)) hk_a0 (by decide) (by decide) rfl 128 tw_993 rfl 175 rfl (by decide +kernel) ?_
        refine v_isub C 176 rfl (by decide +kernel) ?_
        refine v_iconst C (3) (3) (by decide) 177 rfl (by decide +kernel) ?_
        refine v_icmp_ge C 204 180 rfl (by decide +kernel) (fun h55 => ?_) (fun h55 => ?_)
        · have hf := ite2_t hf h55
          exact t_M_next_204 G l C hr ih σ52 a0 hk_a0 hf
        · have hf := ite2_f hf h55
          refine v_aload_n C 0 0 rfl 181 rfl (by decide +kernel) ?_
          refine v_bipush C (10) (10) (by decide) 183 rfl (by decide +kernel) ?_
          refine v_aload_n C 0 0 rfl 184 rfl (by decide +kernel) ?_
          refine v_getI C 9 20 rfl nin_9 (ns_kd_lt hk_a0 (by decide)) hk_a0 (by decide) (by decide) rfl 140 tw_995 rfl 187 rfl (by decide +kernel) ?_
          refine v_imul C 188 rfl (by decide +kernel) ?_
          refine v_aload_n C 0 0 rfl 189 rfl (by decide +kernel) ?_
          obtain ⟨b56, hb56, hf⟩ := drf_e hf
          obtain ⟨hk_b56, hf⟩ := grd_e hf
          refine v_getR C 9 16 hb56 rfl nin_9 (ns_kd_lt hk_a0 (by decide)) hk_a0 (by decide) (by decide) rfl 41 tw_991 rfl 192 rfl (by decide +kernel) ?_
          refine v_aload_n C 0 0 rfl 193 rfl (by decide +kernel) ?_
          refine v_getI C 9 17 rfl nin_9 (ns_kd_lt hk_a0 (by decide)) hk_a0 (by decide) (by decide) rfl 125 tw_992 rfl 196 rfl (by decide +kernel) ?_
          obtain ⟨hi57, hf⟩ := grd_e hf
          refine v_iald C (ns_kd_lt hk_b56 (by decide)) hk_b56 hi57 197 rfl (by decide +kernel) ?_
          refine v_iadd C 198 rfl (by decide +kernel) ?_
          refine v_bipush C (48) (48) (by decide) 200 rfl (by decide +kernel) ?_
          refine v_isub C 201 rfl (by decide +kernel) ?_
          obtain ⟨σ58, hσ58, hf⟩ := bnd_e hf
          refine v_putI C 9 20 hσ58 rfl nin_9 ny_9 nty_9 nnm_9 (ns_kd_lt hk_a0 (by decide)) hk_a0 (by decide) (by decide) rfl rfl rfl rfl 140 tw_995 rfl 204 rfl (by decide +kernel) ?_
          exact t_M_next_204 G l C hr ih σ58 a0 hk_a0 hf
theorem t_M_next_85 (G : ns_G) (l : Launch) {p : Program} {e : Env} {s : State} {m : MethodId} {args : Array Value} {below : List Frame} {meth : Method} {c : Code} (C : ns_Cx G p s m args meth c prog_11_method_32_code "NinthStepModel" 2) (hr : meth.sig.returnType = none) {r : Unit} {σ' : ns_St}  : ∀ (f : Nat) (σ : ns_St) (a0 : Nat) (hk_a0 : ns_kd a0 = 9), g_M_next_85 f σ a0 = some (r, σ') → VV G p l e { frames := 1, cells := 0, slots := 0, locals := 20 } s m args below meth c 2 0 0 (MQ below (ns_Qc G none ns_N σ') args s 0 0 (ns_A G)) ns_N σ 85 [(0, .ref (G.1 + a0))] [] := by
  intro f
  induction f with
  | zero =>
    intro σ a0 hk_a0 hf
    cases hf
  | succ f ih =>
    intro σ a0 hk_a0 hf
    rw [g_M_next_85] at hf
    refine v_aload_n C 0 0 rfl 86 rfl (by decide +kernel) ?_
    refine v_getI C 9 17 rfl nin_9 (ns_kd_lt hk_a0 (by decide)) hk_a0 (by decide) (by decide) rfl 125 tw_992 rfl 89 rfl (by decide +kernel) ?_
    refine v_aload_n C 0 0 rfl 90 rfl (by decide +kernel) ?_
    refine v_getI C 9 15 rfl nin_9 (ns_kd_lt hk_a0 (by decide)) hk_a0 (by decide) (by decide) rfl 122 tw_990 rfl 93 rfl (by decide +kernel) ?_
    refine v_icmp_ge C 265 96 rfl (by decide +kernel) (fun h59 => ?_) (fun h59 => ?_)
    · have hf := ite2_t hf h59
      obtain ⟨rfl, rfl⟩ := ret_e hf
      exact v_vret C hr (by decide +kernel)
    · have hf := ite2_f hf h59
      refine v_aload_n C 0 0 rfl 97 rfl (by decide +kernel) ?_
      obtain ⟨b60, hb60, hf⟩ := drf_e hf
      obtain ⟨hk_b60, hf⟩ := grd_e hf
      refine v_getR C 9 16 hb60 rfl nin_9 (ns_kd_lt hk_a0 (by decide)) hk_a0 (by decide) (by decide) rfl 41 tw_991 rfl 100 rfl (by decide +kernel) ?_
      refine v_aload_n C 0 0 rfl 101 rfl (by decide +kernel) ?_
      refine v_getI C 9 17 rfl nin_9 (ns_kd_lt hk_a0 (by decide)) hk_a0 (by decide) (by decide) rfl 125 tw_992 rfl 104 rfl (by decide +kernel) ?_
      obtain ⟨hi61, hf⟩ := grd_e hf
      refine v_iald C (ns_kd_lt hk_b60 (by decide)) hk_b60 hi61 105 rfl (by decide +kernel) ?_
      obtain ⟨r63, σ62, hcr63, hf⟩ := cl2_e hf
      refine v_cS C [.int (σ.1 b60 (ns_ix (σ.1 a0 17)))] [] (c_M_isLetter G l σ (σ.1 b60 (ns_ix (σ.1 a0 17))) hcr63) 134 1 tw_1197 tw_1195 tw_1196 tw_10 hd_M_isLetter rfl ⟨(Nat.le_of_ble_eq_true rfl), (Nat.le_of_ble_eq_true rfl)⟩ ⟨(Nat.le_of_ble_eq_true rfl), (Nat.le_of_ble_eq_true rfl)⟩ (Nat.le_of_ble_eq_true rfl) rfl 108 rfl (by decide +kernel) [.int r63] rfl ?_
      refine v_if_eq C 265 111 rfl (by decide +kernel) (fun h64 => ?_) (fun h64 => ?_)
      · have hf := ite2_t hf h64
        obtain ⟨rfl, rfl⟩ := ret_e hf
        exact v_vret C hr (by decide +kernel)
      · have hf := ite2_f hf h64
        refine v_aload_n C 0 0 rfl 112 rfl (by decide +kernel) ?_
        refine v_dup C rfl 113 rfl (by decide +kernel) ?_
        refine v_getI C 9 17 rfl nin_9 (ns_kd_lt hk_a0 (by decide)) hk_a0 (by decide) (by decide) rfl 125 tw_992 rfl 116 rfl (by decide +kernel) ?_
        refine v_iconst C (1) (1) (by decide) 117 rfl (by decide +kernel) ?_
        refine v_iadd C 118 rfl (by decide +kernel) ?_
        obtain ⟨σ65, hσ65, hf⟩ := bnd_e hf
        refine v_putI C 9 17 hσ65 rfl nin_9 ny_9 nty_9 nnm_9 (ns_kd_lt hk_a0 (by decide)) hk_a0 (by decide) (by decide) rfl rfl rfl rfl 125 tw_992 rfl 121 rfl (by decide +kernel) ?_
        refine v_goto C 85 (by decide +kernel) ?_
        exact ih σ65 a0 hk_a0 hf
theorem t_M_next_38 (G : ns_G) (l : Launch) {p : Program} {e : Env} {s : State} {m : MethodId} {args : Array Value} {below : List Frame} {meth : Method} {c : Code} (C : ns_Cx G p s m args meth c prog_11_method_32_code "NinthStepModel" 2) (hr : meth.sig.returnType = none) {r : Unit} {σ' : ns_St}  (σ : ns_St) (a0 : Nat) (hk_a0 : ns_kd a0 = 9) (hf : g_M_next_38 σ a0 = some (r, σ')) : VV G p l e { frames := 1, cells := 0, slots := 0, locals := 20 } s m args below meth c 2 0 0 (MQ below (ns_Qc G none ns_N σ') args s 0 0 (ns_A G)) ns_N σ 38 [(0, .ref (G.1 + a0))] [] := by
  unfold g_M_next_38 at hf
  refine v_aload_n C 0 0 rfl 39 rfl (by decide +kernel) ?_
  refine v_aload_n C 0 0 rfl 40 rfl (by decide +kernel) ?_
  refine v_getI C 9 17 rfl nin_9 (ns_kd_lt hk_a0 (by decide)) hk_a0 (by decide) (by decide) rfl 125 tw_992 rfl 43 rfl (by decide +kernel) ?_
  obtain ⟨σ66, hσ66, hf⟩ := bnd_e hf
  refine v_putI C 9 18 hσ66 rfl nin_9 ny_9 nty_9 nnm_9 (ns_kd_lt hk_a0 (by decide)) hk_a0 (by decide) (by decide) rfl rfl rfl rfl 128 tw_993 rfl 46 rfl (by decide +kernel) ?_
  refine v_aload_n C 0 0 rfl 47 rfl (by decide +kernel) ?_
  refine v_getI C 9 17 rfl nin_9 (ns_kd_lt hk_a0 (by decide)) hk_a0 (by decide) (by decide) rfl 125 tw_992 rfl 50 rfl (by decide +kernel) ?_
  refine v_aload_n C 0 0 rfl 51 rfl (by decide +kernel) ?_
  refine v_getI C 9 15 rfl nin_9 (ns_kd_lt hk_a0 (by decide)) hk_a0 (by decide) (by decide) rfl 122 tw_990 rfl 54 rfl (by decide +kernel) ?_
  refine v_icmp_ne C 63 57 rfl (by decide +kernel) (fun h67 => ?_) (fun h67 => ?_)
  · have hf := ite2_f hf h67
    refine v_aload_n C 0 0 rfl 64 rfl (by decide +kernel) ?_
    obtain ⟨b68, hb68, hf⟩ := drf_e hf
    obtain ⟨hk_b68, hf⟩ := grd_e hf
    refine v_getR C 9 16 hb68 rfl nin_9 (ns_kd_lt hk_a0 (by decide)) hk_a0 (by decide) (by decide) rfl 41 tw_991 rfl 67 rfl (by decide +kernel) ?_
    refine v_aload_n C 0 0 rfl 68 rfl (by decide +kernel) ?_
    refine v_getI C 9 17 rfl nin_9 (ns_kd_lt hk_a0 (by decide)) hk_a0 (by decide) (by decide) rfl 125 tw_992 rfl 71 rfl (by decide +kernel) ?_
    obtain ⟨hi69, hf⟩ := grd_e hf
    refine v_iald C (ns_kd_lt hk_b68 (by decide)) hk_b68 hi69 72 rfl (by decide +kernel) ?_
    obtain ⟨z70, hz70, hf⟩ := bnd_e hf
    refine v_nmI hz70 ?_
    refine v_istore_n C 1 [(1, .int z70), (0, .ref (G.1 + a0))] (by decide) rfl 73 rfl (by decide +kernel) ?_
    refine v_iload_n C 1 0 rfl 74 rfl (by decide +kernel) ?_
    obtain ⟨r72, σ71, hcr72, hf⟩ := cl2_e hf
    refine v_cS C [.int z70] [] (c_M_isLetter G l σ66 z70 hcr72) 134 1 tw_1197 tw_1195 tw_1196 tw_10 hd_M_isLetter rfl ⟨(Nat.le_of_ble_eq_true rfl), (Nat.le_of_ble_eq_true rfl)⟩ ⟨(Nat.le_of_ble_eq_true rfl), (Nat.le_of_ble_eq_true rfl)⟩ (Nat.le_of_ble_eq_true rfl) rfl 77 rfl (by decide +kernel) [.int r72] rfl ?_
    refine v_if_eq C 124 80 rfl (by decide +kernel) (fun h73 => ?_) (fun h73 => ?_)
    · have hf := ite2_t hf h73
      refine v_iload_n C 1 0 rfl 125 rfl (by decide +kernel) ?_
      obtain ⟨r75, σ74, hcr75, hf⟩ := cl2_e hf
      refine v_cS C [.int z70] [] (c_M_isDigit G l σ71 z70 hcr75) 137 1 tw_1200 tw_1198 tw_1199 tw_10 hd_M_isDigit rfl ⟨(Nat.le_of_ble_eq_true rfl), (Nat.le_of_ble_eq_true rfl)⟩ ⟨(Nat.le_of_ble_eq_true rfl), (Nat.le_of_ble_eq_true rfl)⟩ (Nat.le_of_ble_eq_true rfl) rfl 128 rfl (by decide +kernel) [.int r75] rfl ?_
      refine v_if_eq C 240 131 rfl (by decide +kernel) (fun h76 => ?_) (fun h76 => ?_)
      · have hf := ite2_t hf h76
        refine v_aload_n C 0 1 rfl 241 rfl (by decide +kernel) ?_
        refine v_iload_n C 1 0 rfl 242 rfl (by decide +kernel) ?_
        refine v_bipush C (59) (59) (by decide) 244 rfl (by decide +kernel) ?_
        refine v_icmp_ne C 251 247 rfl (by decide +kernel) (fun h77 => ?_) (fun h77 => ?_)
        · have hf := ite2_f hf h77
          refine v_iconst C (-1) (-1) (by decide) 252 rfl (by decide +kernel) ?_
          refine v_sub [1] rfl ?_
          exact t_M_next_252 G l C hr  σ74 a0 (-1 : Int32) a0 hk_a0 hk_a0 hf
        · have hf := ite2_t hf h77
          refine v_iconst C (3) (3) (by decide) 248 rfl (by decide +kernel) ?_
          refine v_goto C 252 (by decide +kernel) ?_
          refine v_sub [1] rfl ?_
          exact t_M_next_252 G l C hr  σ74 a0 (3 : Int32) a0 hk_a0 hk_a0 hf
      · have hf := ite2_f hf h76
        refine v_aload_n C 0 1 rfl 132 rfl (by decide +kernel) ?_
        refine v_iconst C (2) (2) (by decide) 133 rfl (by decide +kernel) ?_
        obtain ⟨σ78, hσ78, hf⟩ := bnd_e hf
        refine v_putI C 9 19 hσ78 rfl nin_9 ny_9 nty_9 nnm_9 (ns_kd_lt hk_a0 (by decide)) hk_a0 (by decide) (by decide) rfl rfl rfl rfl 131 tw_994 rfl 136 rfl (by decide +kernel) ?_
        refine v_aload_n C 0 1 rfl 137 rfl (by decide +kernel) ?_
        refine v_iconst C (0) (0) (by decide) 138 rfl (by decide +kernel) ?_
        obtain ⟨σ79, hσ79, hf⟩ := bnd_e hf
        refine v_putI C 9 20 hσ79 rfl nin_9 ny_9 nty_9 nnm_9 (ns_kd_lt hk_a0 (by decide)) hk_a0 (by decide) (by decide) rfl rfl rfl rfl 140 tw_995 rfl 141 rfl (by decide +kernel) ?_
        refine v_sub [1] rfl ?_
        exact t_M_next_141 G l C hr  ns_F σ79 a0 hk_a0 hf
    · have hf := ite2_f hf h73
      refine v_aload_n C 0 1 rfl 81 rfl (by decide +kernel) ?_
      refine v_iconst C (1) (1) (by decide) 82 rfl (by decide +kernel) ?_
      obtain ⟨σ80, hσ80, hf⟩ := bnd_e hf
      refine v_putI C 9 19 hσ80 rfl nin_9 ny_9 nty_9 nnm_9 (ns_kd_lt hk_a0 (by decide)) hk_a0 (by decide) (by decide) rfl rfl rfl rfl 131 tw_994 rfl 85 rfl (by decide +kernel) ?_
      refine v_sub [1] rfl ?_
      exact t_M_next_85 G l C hr  ns_F σ80 a0 hk_a0 hf
  · have hf := ite2_t hf h67
    refine v_aload_n C 0 0 rfl 58 rfl (by decide +kernel) ?_
    refine v_iconst C (0) (0) (by decide) 59 rfl (by decide +kernel) ?_
    obtain ⟨σ81, hσ81, hf⟩ := bnd_e hf
    refine v_putI C 9 19 hσ81 rfl nin_9 ny_9 nty_9 nnm_9 (ns_kd_lt hk_a0 (by decide)) hk_a0 (by decide) (by decide) rfl rfl rfl rfl 131 tw_994 rfl 62 rfl (by decide +kernel) ?_
    obtain ⟨rfl, rfl⟩ := ret_e hf
    exact v_vret C hr (by decide +kernel)
theorem t_M_next_0 (G : ns_G) (l : Launch) {p : Program} {e : Env} {s : State} {m : MethodId} {args : Array Value} {below : List Frame} {meth : Method} {c : Code} (C : ns_Cx G p s m args meth c prog_11_method_32_code "NinthStepModel" 2) (hr : meth.sig.returnType = none) {r : Unit} {σ' : ns_St}  : ∀ (f : Nat) (σ : ns_St) (a0 : Nat) (hk_a0 : ns_kd a0 = 9), g_M_next_0 f σ a0 = some (r, σ') → VV G p l e { frames := 1, cells := 0, slots := 0, locals := 20 } s m args below meth c 2 0 0 (MQ below (ns_Qc G none ns_N σ') args s 0 0 (ns_A G)) ns_N σ 0 [(0, .ref (G.1 + a0))] [] := by
  intro f
  induction f with
  | zero =>
    intro σ a0 hk_a0 hf
    cases hf
  | succ f ih =>
    intro σ a0 hk_a0 hf
    rw [g_M_next_0] at hf
    refine v_aload_n C 0 0 rfl 1 rfl (by decide +kernel) ?_
    refine v_getI C 9 17 rfl nin_9 (ns_kd_lt hk_a0 (by decide)) hk_a0 (by decide) (by decide) rfl 125 tw_992 rfl 4 rfl (by decide +kernel) ?_
    refine v_aload_n C 0 0 rfl 5 rfl (by decide +kernel) ?_
    refine v_getI C 9 15 rfl nin_9 (ns_kd_lt hk_a0 (by decide)) hk_a0 (by decide) (by decide) rfl 122 tw_990 rfl 8 rfl (by decide +kernel) ?_
    refine v_icmp_ge C 38 11 rfl (by decide +kernel) (fun h82 => ?_) (fun h82 => ?_)
    · have hf := ite2_t hf h82
      exact t_M_next_38 G l C hr  σ a0 hk_a0 hf
    · have hf := ite2_f hf h82
      refine v_aload_n C 0 0 rfl 12 rfl (by decide +kernel) ?_
      obtain ⟨b83, hb83, hf⟩ := drf_e hf
      obtain ⟨hk_b83, hf⟩ := grd_e hf
      refine v_getR C 9 16 hb83 rfl nin_9 (ns_kd_lt hk_a0 (by decide)) hk_a0 (by decide) (by decide) rfl 41 tw_991 rfl 15 rfl (by decide +kernel) ?_
      refine v_aload_n C 0 0 rfl 16 rfl (by decide +kernel) ?_
      refine v_getI C 9 17 rfl nin_9 (ns_kd_lt hk_a0 (by decide)) hk_a0 (by decide) (by decide) rfl 125 tw_992 rfl 19 rfl (by decide +kernel) ?_
      obtain ⟨hi84, hf⟩ := grd_e hf
      refine v_iald C (ns_kd_lt hk_b83 (by decide)) hk_b83 hi84 20 rfl (by decide +kernel) ?_
      refine v_bipush C (32) (32) (by decide) 22 rfl (by decide +kernel) ?_
      refine v_icmp_ne C 38 25 rfl (by decide +kernel) (fun h85 => ?_) (fun h85 => ?_)
      · have hf := ite2_f hf h85
        exact t_M_next_38 G l C hr  σ a0 hk_a0 hf
      · have hf := ite2_t hf h85
        refine v_aload_n C 0 0 rfl 26 rfl (by decide +kernel) ?_
        refine v_dup C rfl 27 rfl (by decide +kernel) ?_
        refine v_getI C 9 17 rfl nin_9 (ns_kd_lt hk_a0 (by decide)) hk_a0 (by decide) (by decide) rfl 125 tw_992 rfl 30 rfl (by decide +kernel) ?_
        refine v_iconst C (1) (1) (by decide) 31 rfl (by decide +kernel) ?_
        refine v_iadd C 32 rfl (by decide +kernel) ?_
        obtain ⟨σ86, hσ86, hf⟩ := bnd_e hf
        refine v_putI C 9 17 hσ86 rfl nin_9 ny_9 nty_9 nnm_9 (ns_kd_lt hk_a0 (by decide)) hk_a0 (by decide) (by decide) rfl rfl rfl rfl 125 tw_992 rfl 35 rfl (by decide +kernel) ?_
        refine v_goto C 0 (by decide +kernel) ?_
        exact ih σ86 a0 hk_a0 hf
theorem c_M_next (G : ns_G) (l : Launch) (σ : ns_St) (a0 : Nat) {r : Unit} {σ' : ns_St} (hf : g_M_next σ a0 = some (r, σ')) : ns_ok G l ⟨"NinthStepModel", "next", "()V"⟩ prog_11_method_32_code 2 none 1 20 0 0 [.ref (G.1 + a0)] ns_N σ none ns_N σ' := by
  refine v_open (by decide) (Nat.le_of_ble_eq_true rfl) rfl ?_
  intro p e s m below meth c C hr _
  have C : ns_Cx G p s m _ meth c prog_11_method_32_code "NinthStepModel" 2 := C
  unfold g_M_next at hf
  obtain ⟨hk_a0, hf⟩ := grd_e hf
  exact t_M_next_0 G l C hr  ns_F σ a0 hk_a0 hf
theorem hd_M_next : (⟨"NinthStepModel", "next", "()V"⟩ : MethodName).cls = "NinthStepModel" ∧ (⟨"NinthStepModel", "next", "()V"⟩ : MethodName).cls ≠ "java/lang/invoke/MethodHandle" ∧ (⟨"NinthStepModel", "next", "()V"⟩ : MethodName).cls ≠ "java/lang/invoke/VarHandle" ∧ (parseMethodDescriptor (⟨"NinthStepModel", "next", "()V"⟩ : MethodName).desc).map (fun d => d.parameters.length) = some 0 := by decide +kernel
def g_M_isWord_28  : Nat → ns_St → Nat → Nat → Int32 → Option (Int32 × ns_St)
  | 0, _, _, _, _ => none
  | f + 1, σ, a0, x1, x2 => cl2 (g_String_length σ x1) fun r15 σ14 => ite2 (r15 ≤ x2) (some ((1 : Int32), σ14)) (drf (σ14.2.2 a0 16) fun b17 => grd (ns_kd b17 = 10) <| grd (ns_in ((σ14.1 a0 18) + x2) (ns_ln b17)) <| cl2 (g_String_charAt σ14 x1 x2) fun r20 σ19 => ite2 ((σ14.1 b17 (ns_ix ((σ14.1 a0 18) + x2))) = r20) (bnd (x2 + 1) fun z22 => (g_M_isWord_28 f) σ19 a0 x1 z22) (some ((0 : Int32), σ19)))
def g_M_isWord (σ : ns_St) (a0 : Nat) (x1 : Nat) : Option (Int32 × ns_St) := grd (ns_kd a0 = 9) <| grd (x1 < 8) <| ite2 ((σ.1 a0 19) = (1 : Int32)) (cl2 (g_String_length σ x1) fun r25 σ24 => ite2 (((σ.1 a0 17) - (σ.1 a0 18)) = r25) (g_M_isWord_28 ns_F σ24 a0 x1 (0 : Int32)) (some ((0 : Int32), σ24))) (some ((0 : Int32), σ))
theorem t_M_isWord_28 (G : ns_G) (l : Launch) {p : Program} {e : Env} {s : State} {m : MethodId} {args : Array Value} {below : List Frame} {meth : Method} {c : Code} (C : ns_Cx G p s m args meth c prog_11_method_33_code "NinthStepModel" 3) (hr : meth.sig.returnType = (some .boolean)) {r : Int32} {σ' : ns_St}  : ∀ (f : Nat) (σ : ns_St) (a0 : Nat) (x1 : Nat) (x2 : Int32) (hk_a0 : ns_kd a0 = 9) (hk_x1 : x1 < 8), g_M_isWord_28 f σ a0 x1 x2 = some (r, σ') → VV G p l e { frames := 4, cells := 0, slots := 0, locals := 85 } s m args below meth c 3 0 0 (MQ below (ns_Qc G (some (.int r)) ns_N σ') args s 0 0 (ns_A G)) ns_N σ 28 [(0, .ref (G.1 + a0)), (1, .ref (ns_sK G x1)), (2, .int x2)] [] := by
  intro f
  induction f with
  | zero =>
    intro σ a0 x1 x2 hk_a0 hk_x1 hf
    cases hf
  | succ f ih =>
    intro σ a0 x1 x2 hk_a0 hk_x1 hf
    rw [g_M_isWord_28] at hf
    refine v_iload_n C 2 2 rfl 29 rfl (by decide +kernel) ?_
    refine v_aload_n C 1 1 rfl 30 rfl (by decide +kernel) ?_
    obtain ⟨r15, σ14, hcr15, hf⟩ := cl2_e hf
    refine v_cVT C hk_x1 [] [.int x2] (c_String_length G l σ x1 hcr15) 143 0 tw_546 tw_1210 tw_544 tw_545 tw_14 hd_String_length rfl ⟨(Nat.le_of_ble_eq_true rfl), (Nat.le_of_ble_eq_true rfl)⟩ ⟨(Nat.le_of_ble_eq_true rfl), (Nat.le_of_ble_eq_true rfl)⟩ (Nat.le_of_ble_eq_true rfl) rfl 33 rfl (by decide +kernel) [.int r15, .int x2] rfl ?_
    refine v_icmp_ge C 63 36 rfl (by decide +kernel) (fun h16 => ?_) (fun h16 => ?_)
    · have hf := ite2_t hf h16
      refine v_iconst C (1) (1) (by decide) 64 rfl (by decide +kernel) ?_
      obtain ⟨rfl, rfl⟩ := ret_e hf
      exact v_zret C hr rfl (by decide +kernel)
    · have hf := ite2_f hf h16
      refine v_aload_n C 0 0 rfl 37 rfl (by decide +kernel) ?_
      obtain ⟨b17, hb17, hf⟩ := drf_e hf
      obtain ⟨hk_b17, hf⟩ := grd_e hf
      refine v_getR C 9 16 hb17 rfl nin_9 (ns_kd_lt hk_a0 (by decide)) hk_a0 (by decide) (by decide) rfl 41 tw_991 rfl 40 rfl (by decide +kernel) ?_
      refine v_aload_n C 0 0 rfl 41 rfl (by decide +kernel) ?_
      refine v_getI C 9 18 rfl nin_9 (ns_kd_lt hk_a0 (by decide)) hk_a0 (by decide) (by decide) rfl 128 tw_993 rfl 44 rfl (by decide +kernel) ?_
      refine v_iload_n C 2 2 rfl 45 rfl (by decide +kernel) ?_
      refine v_iadd C 46 rfl (by decide +kernel) ?_
      obtain ⟨hi18, hf⟩ := grd_e hf
      refine v_iald C (ns_kd_lt hk_b17 (by decide)) hk_b17 hi18 47 rfl (by decide +kernel) ?_
      refine v_aload_n C 1 1 rfl 48 rfl (by decide +kernel) ?_
      refine v_iload_n C 2 2 rfl 49 rfl (by decide +kernel) ?_
      obtain ⟨r20, σ19, hcr20, hf⟩ := cl2_e hf
      refine v_cVT C hk_x1 [.int x2] [.int (σ14.1 b17 (ns_ix ((σ14.1 a0 18) + x2)))] (c_String_charAt G l σ14 x1 x2 hcr20) 148 1 tw_556 tw_1211 tw_554 tw_555 tw_14 hd_String_charAt rfl ⟨(Nat.le_of_ble_eq_true rfl), (Nat.le_of_ble_eq_true rfl)⟩ ⟨(Nat.le_of_ble_eq_true rfl), (Nat.le_of_ble_eq_true rfl)⟩ (Nat.le_of_ble_eq_true rfl) rfl 52 rfl (by decide +kernel) [.int r20, .int (σ14.1 b17 (ns_ix ((σ14.1 a0 18) + x2)))] rfl ?_
      refine v_icmp_eq C 57 55 rfl (by decide +kernel) (fun h21 => ?_) (fun h21 => ?_)
      · have hf := ite2_t hf h21
        obtain ⟨z22, hz22, hf⟩ := bnd_e hf
        refine v_iinc C 2 (1) 2 z22 rfl (by rw [hz22]; rfl) [(2, .int z22), (0, .ref (G.1 + a0)), (1, .ref (ns_sK G x1))] (by decide) rfl 60 rfl (by decide +kernel) ?_
        refine v_goto C 28 (by decide +kernel) ?_
        refine v_sub [1, 2, 0] rfl ?_
        exact ih σ19 a0 x1 z22 hk_a0 hk_x1 hf
      · have hf := ite2_f hf h21
        refine v_iconst C (0) (0) (by decide) 56 rfl (by decide +kernel) ?_
        obtain ⟨rfl, rfl⟩ := ret_e hf
        exact v_zret C hr rfl (by decide +kernel)
theorem c_M_isWord (G : ns_G) (l : Launch) (σ : ns_St) (a0 : Nat) (x1 : Nat) {r : Int32} {σ' : ns_St} (hf : g_M_isWord σ a0 x1 = some (r, σ')) : ns_ok G l ⟨"NinthStepModel", "isWord", "(Ljava/lang/String;)Z"⟩ prog_11_method_33_code 3 (some .boolean) 4 85 0 0 [.ref (G.1 + a0), .ref (ns_sK G x1)] ns_N σ (some (.int r)) ns_N σ' := by
  refine v_open (by decide) (Nat.le_of_ble_eq_true rfl) rfl ?_
  intro p e s m below meth c C hr _
  have C : ns_Cx G p s m _ meth c prog_11_method_33_code "NinthStepModel" 3 := C
  unfold g_M_isWord at hf
  obtain ⟨hk_a0, hf⟩ := grd_e hf
  obtain ⟨hk_x1, hf⟩ := grd_e hf
  refine v_aload_n C 0 0 rfl 1 rfl (by decide +kernel) ?_
  refine v_getI C 9 19 rfl nin_9 (ns_kd_lt hk_a0 (by decide)) hk_a0 (by decide) (by decide) rfl 131 tw_994 rfl 4 rfl (by decide +kernel) ?_
  refine v_iconst C (1) (1) (by decide) 5 rfl (by decide +kernel) ?_
  refine v_icmp_ne C 24 8 rfl (by decide +kernel) (fun h23 => ?_) (fun h23 => ?_)
  · have hf := ite2_f hf h23
    refine v_iconst C (0) (0) (by decide) 25 rfl (by decide +kernel) ?_
    obtain ⟨rfl, rfl⟩ := ret_e hf
    exact v_zret C hr rfl (by decide +kernel)
  · have hf := ite2_t hf h23
    refine v_aload_n C 0 0 rfl 9 rfl (by decide +kernel) ?_
    refine v_getI C 9 17 rfl nin_9 (ns_kd_lt hk_a0 (by decide)) hk_a0 (by decide) (by decide) rfl 125 tw_992 rfl 12 rfl (by decide +kernel) ?_
    refine v_aload_n C 0 0 rfl 13 rfl (by decide +kernel) ?_
    refine v_getI C 9 18 rfl nin_9 (ns_kd_lt hk_a0 (by decide)) hk_a0 (by decide) (by decide) rfl 128 tw_993 rfl 16 rfl (by decide +kernel) ?_
    refine v_isub C 17 rfl (by decide +kernel) ?_
    refine v_aload_n C 1 1 rfl 18 rfl (by decide +kernel) ?_
    obtain ⟨r25, σ24, hcr25, hf⟩ := cl2_e hf
    refine v_cVT C hk_x1 [] [.int ((σ.1 a0 17) - (σ.1 a0 18))] (c_String_length G l σ x1 hcr25) 143 0 tw_546 tw_1210 tw_544 tw_545 tw_14 hd_String_length rfl ⟨(Nat.le_of_ble_eq_true rfl), (Nat.le_of_ble_eq_true rfl)⟩ ⟨(Nat.le_of_ble_eq_true rfl), (Nat.le_of_ble_eq_true rfl)⟩ (Nat.le_of_ble_eq_true rfl) rfl 21 rfl (by decide +kernel) [.int r25, .int ((σ.1 a0 17) - (σ.1 a0 18))] rfl ?_
    refine v_icmp_eq C 26 24 rfl (by decide +kernel) (fun h26 => ?_) (fun h26 => ?_)
    · have hf := ite2_t hf h26
      refine v_iconst C (0) (0) (by decide) 27 rfl (by decide +kernel) ?_
      refine v_istore_n C 2 [(2, .int (0 : Int32)), (0, .ref (G.1 + a0)), (1, .ref (ns_sK G x1))] (by decide) rfl 28 rfl (by decide +kernel) ?_
      refine v_sub [1, 2, 0] rfl ?_
      exact t_M_isWord_28 G l C hr  ns_F σ24 a0 x1 (0 : Int32) hk_a0 hk_x1 hf
    · have hf := ite2_f hf h26
      refine v_iconst C (0) (0) (by decide) 25 rfl (by decide +kernel) ?_
      obtain ⟨rfl, rfl⟩ := ret_e hf
      exact v_zret C hr rfl (by decide +kernel)
theorem hd_M_isWord : (⟨"NinthStepModel", "isWord", "(Ljava/lang/String;)Z"⟩ : MethodName).cls = "NinthStepModel" ∧ (⟨"NinthStepModel", "isWord", "(Ljava/lang/String;)Z"⟩ : MethodName).cls ≠ "java/lang/invoke/MethodHandle" ∧ (⟨"NinthStepModel", "isWord", "(Ljava/lang/String;)Z"⟩ : MethodName).cls ≠ "java/lang/invoke/VarHandle" ∧ (parseMethodDescriptor (⟨"NinthStepModel", "isWord", "(Ljava/lang/String;)Z"⟩ : MethodName).desc).map (fun d => d.parameters.length) = some 1 := by decide +kernel
def g_M_number (σ : ns_St) (a0 : Nat) (x1 : Int32) (x2 : Int32) : Option (Int32 × ns_St) := grd (ns_kd a0 = 9) <| cl2 (g_M_next σ a0) fun r8 σ7 => ite2 ((σ7.1 a0 19) = (2 : Int32)) (cl2 (g_M_within σ7 (σ7.1 a0 20) x1 x2) fun r11 σ10 => ite2 (r11 = 0) (some ((0 : Int32), σ10)) (some ((1 : Int32), σ10))) (some ((0 : Int32), σ7))
theorem c_M_number (G : ns_G) (l : Launch) (σ : ns_St) (a0 : Nat) (x1 : Int32) (x2 : Int32) {r : Int32} {σ' : ns_St} (hf : g_M_number σ a0 x1 x2 = some (r, σ')) : ns_ok G l ⟨"NinthStepModel", "number", "(II)Z"⟩ prog_11_method_34_code 3 (some .boolean) 2 41 0 0 [.ref (G.1 + a0), .int x1, .int x2] ns_N σ (some (.int r)) ns_N σ' := by
  refine v_open (by decide) (Nat.le_of_ble_eq_true rfl) rfl ?_
  intro p e s m below meth c C hr _
  have C : ns_Cx G p s m _ meth c prog_11_method_34_code "NinthStepModel" 3 := C
  unfold g_M_number at hf
  obtain ⟨hk_a0, hf⟩ := grd_e hf
  refine v_aload_n C 0 0 rfl 1 rfl (by decide +kernel) ?_
  obtain ⟨r8, σ7, hcr8, hf⟩ := cl2_e hf
  refine v_cV C 9 rfl (ns_kd_lt hk_a0 (by decide)) hk_a0 (by decide) [] [] (c_M_next G l σ a0 hcr8) 152 0 tw_1194 tw_1191 tw_1193 ts_86 tw_10 hd_M_next rfl ⟨(Nat.le_of_ble_eq_true rfl), (Nat.le_of_ble_eq_true rfl)⟩ ⟨(Nat.le_of_ble_eq_true rfl), (Nat.le_of_ble_eq_true rfl)⟩ (Nat.le_of_ble_eq_true rfl) rfl 4 rfl (by decide +kernel) [] rfl ?_
  refine v_aload_n C 0 0 rfl 5 rfl (by decide +kernel) ?_
  refine v_getI C 9 19 rfl nin_9 (ns_kd_lt hk_a0 (by decide)) hk_a0 (by decide) (by decide) rfl 131 tw_994 rfl 8 rfl (by decide +kernel) ?_
  refine v_iconst C (2) (2) (by decide) 9 rfl (by decide +kernel) ?_
  refine v_icmp_ne C 28 12 rfl (by decide +kernel) (fun h9 => ?_) (fun h9 => ?_)
  · have hf := ite2_f hf h9
    refine v_iconst C (0) (0) (by decide) 29 rfl (by decide +kernel) ?_
    obtain ⟨rfl, rfl⟩ := ret_e hf
    exact v_zret C hr rfl (by decide +kernel)
  · have hf := ite2_t hf h9
    refine v_aload_n C 0 0 rfl 13 rfl (by decide +kernel) ?_
    refine v_getI C 9 20 rfl nin_9 (ns_kd_lt hk_a0 (by decide)) hk_a0 (by decide) (by decide) rfl 140 tw_995 rfl 16 rfl (by decide +kernel) ?_
    refine v_iload_n C 1 1 rfl 17 rfl (by decide +kernel) ?_
    refine v_iload_n C 2 2 rfl 18 rfl (by decide +kernel) ?_
    obtain ⟨r11, σ10, hcr11, hf⟩ := cl2_e hf
    refine v_cS C [.int (σ7.1 a0 20), .int x1, .int x2] [] (c_M_within G l σ7 (σ7.1 a0 20) x1 x2 hcr11) 69 3 tw_1075 tw_1073 tw_1074 tw_10 hd_M_within rfl ⟨(Nat.le_of_ble_eq_true rfl), (Nat.le_of_ble_eq_true rfl)⟩ ⟨(Nat.le_of_ble_eq_true rfl), (Nat.le_of_ble_eq_true rfl)⟩ (Nat.le_of_ble_eq_true rfl) rfl 21 rfl (by decide +kernel) [.int r11] rfl ?_
    refine v_if_eq C 28 24 rfl (by decide +kernel) (fun h12 => ?_) (fun h12 => ?_)
    · have hf := ite2_t hf h12
      refine v_iconst C (0) (0) (by decide) 29 rfl (by decide +kernel) ?_
      obtain ⟨rfl, rfl⟩ := ret_e hf
      exact v_zret C hr rfl (by decide +kernel)
    · have hf := ite2_f hf h12
      refine v_iconst C (1) (1) (by decide) 25 rfl (by decide +kernel) ?_
      refine v_goto C 29 (by decide +kernel) ?_
      obtain ⟨rfl, rfl⟩ := ret_e hf
      exact v_zret C hr rfl (by decide +kernel)
theorem hd_M_number : (⟨"NinthStepModel", "number", "(II)Z"⟩ : MethodName).cls = "NinthStepModel" ∧ (⟨"NinthStepModel", "number", "(II)Z"⟩ : MethodName).cls ≠ "java/lang/invoke/MethodHandle" ∧ (⟨"NinthStepModel", "number", "(II)Z"⟩ : MethodName).cls ≠ "java/lang/invoke/VarHandle" ∧ (parseMethodDescriptor (⟨"NinthStepModel", "number", "(II)Z"⟩ : MethodName).desc).map (fun d => d.parameters.length) = some 2 := by decide +kernel
