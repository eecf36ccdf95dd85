def g_StonePlan_fillSafe_71 (kh41 : ns_St → Nat → Nat → Int32 → Option (Unit × ns_St)) : Nat → ns_St → Nat → Nat → Int32 → Int32 → Int32 → Option (Unit × ns_St)
  | 0, _, _, _, _, _, _ => none
  | f + 1, σ, a0, a1, x2, x3, x4 => ite2 (x3 < x4) (bnd (x2 + (-1)) fun z45 => kh41 σ a0 a1 z45) (drf (σ.2.2 a0 6) fun b46 => grd (ns_kd b46 = 2) <| drf (σ.2.2 a0 2) fun b47 => grd (ns_kd b47 = 10) <| grd (ns_in x2 (ns_ln b47)) <| cl2 (g_Mule_standAt σ b46 x2 x4 (σ.1 b47 (ns_ix x2))) fun r50 σ49 => drf (σ49.2.2 a0 6) fun b51 => grd (ns_kd b51 = 2) <| cl2 (g_StonePlan_fallsNext σ49 a0 b51 (0 : Int32)) fun r53 σ52 => ite2 (r53 = 0) (drf (σ52.2.2 a0 6) fun b56 => grd (ns_kd b56 = 2) <| cl2 (g_StonePlan_isSafe σ52 a0 b56) fun r58 σ57 => ite2 (r58 = 0) (bnd (x4 + 1) fun z60 => (g_StonePlan_fillSafe_71 kh41 f) σ57 a0 a1 x2 x3 z60) (drf (σ57.2.2 a0 0) fun b61 => grd (ns_kd b61 = 11) <| grd (ns_in x2 (ns_ln b61)) <| cl2 (g_N_bit σ57 x4) fun r64 σ63 => grd (ns_in x2 (ns_ln b61)) <| bnd (ns_pJ σ63 b61 (ns_ix x2) ((σ57.2.1 b61 (ns_ix x2)) ||| r64)) fun σ66 => bnd (x4 + 1) fun z67 => (g_StonePlan_fillSafe_71 kh41 f) σ66 a0 a1 x2 x3 z67)) (bnd (x4 + 1) fun z55 => (g_StonePlan_fillSafe_71 kh41 f) σ52 a0 a1 x2 x3 z55))
def g_StonePlan_fillSafe_41  : Nat → ns_St → Nat → Nat → Int32 → Option (Unit × ns_St)
  | 0, _, _, _, _ => none
  | f + 1, σ, a0, a1, x2 => ite2 (x2 < (σ.1 a1 2)) (some ((), σ)) (drf (σ.2.2 a0 0) fun b69 => grd (ns_kd b69 = 11) <| grd (ns_in x2 (ns_ln b69)) <| bnd (ns_pJ σ b69 (ns_ix x2) (0 : Int64)) fun σ71 => drf (σ71.2.2 a0 2) fun b72 => grd (ns_kd b72 = 10) <| grd (ns_in x2 (ns_ln b72)) <| cl2 (g_Math_min σ71 (σ71.1 b72 (ns_ix x2)) (63 : Int32)) fun r75 σ74 => g_StonePlan_fillSafe_71 (g_StonePlan_fillSafe_41 f) ns_F σ74 a0 a1 x2 r75 (0 : Int32))
def g_StonePlan_fillSafe (σ : ns_St) (a0 : Nat) (a1 : Nat) : Option (Unit × ns_St) := grd (ns_kd a0 = 4) <| grd (ns_kd a1 = 2) <| drf (σ.2.2 a0 7) fun b76 => grd (ns_kd b76 = 1) <| drf (σ.2.2 a0 6) fun b77 => grd (ns_kd b77 = 2) <| drf (σ.2.2 a0 2) fun b78 => grd (ns_kd b78 = 10) <| cl2 (g_N_tellNumbers σ a1 b76 b77 b78) fun r80 σ79 => drf (σ79.2.2 a0 0) fun b81 => grd (ns_kd b81 = 11) <| drf (σ79.2.2 a0 7) fun b82 => grd (ns_kd b82 = 1) <| grd (ns_in (σ79.1 b82 0) (ns_ln b81)) <| bnd (ns_pJ σ79 b81 (ns_ix (σ79.1 b82 0)) (-1 : Int64)) fun σ84 => drf (σ84.2.2 a0 7) fun b85 => grd (ns_kd b85 = 1) <| bnd ((σ84.1 b85 0) - (1 : Int32)) fun z86 => g_StonePlan_fillSafe_41 ns_F σ84 a0 a1 z86
theorem t_StonePlan_fillSafe_71 (G : ns_G) (l : Launch) {p : Program} {e : Env} {s : State} {m : MethodId} {args : Array Value} {below : List Frame} {meth : Method} {c : Code} (C : ns_Cx G p s m args meth c prog_6_method_9_code "NinthStep$StonePlan" 5) (hr : meth.sig.returnType = none) {r : Unit} {σ' : ns_St} {kh41 : ns_St → Nat → Nat → Int32 → Option (Unit × ns_St)} (hkh41 : ∀ (σ : ns_St) (a0 : Nat) (a1 : Nat) (x2 : Int32), ns_kd a0 = 4 → ns_kd a1 = 2 → kh41 σ a0 a1 x2 = some (r, σ') → VV G p l e { frames := 3, cells := 0, slots := 0, locals := 69 } s m args below meth c 5 0 0 (MQ below (ns_Qc G none ns_N σ') args s 0 0 (ns_A G)) ns_N σ 41 [(0, .ref (G.1 + a0)), (1, .ref (G.1 + a1)), (2, .int x2)] []) : ∀ (f : Nat) (σ : ns_St) (a0 : Nat) (a1 : Nat) (x2 : Int32) (x3 : Int32) (x4 : Int32) (hk_a0 : ns_kd a0 = 4) (hk_a1 : ns_kd a1 = 2), g_StonePlan_fillSafe_71 kh41 f σ a0 a1 x2 x3 x4 = some (r, σ') → VV G p l e { frames := 3, cells := 0, slots := 0, locals := 69 } s m args below meth c 5 0 0 (MQ below (ns_Qc G none ns_N σ') args s 0 0 (ns_A G)) ns_N σ 71 [(0, .ref (G.1 + a0)), (1, .ref (G.1 + a1)), (2, .int x2), (3, .int x3), (4, .int x4)] [] := by
  intro f
  induction f with
  | zero =>
    intro σ a0 a1 x2 x3 x4 hk_a0 hk_a1 hf
    cases hf
  | succ f ih =>
    intro σ a0 a1 x2 x3 x4 hk_a0 hk_a1 hf
    rw [g_StonePlan_fillSafe_71] at hf
    refine v_iload C 4 4 rfl 73 rfl (by decide +kernel) ?_
    refine v_iload_n C 3 3 rfl 74 rfl (by decide +kernel) ?_
    refine v_icmp_gt C 136 77 rfl (by decide +kernel) (fun h44 => ?_) (fun h44 => ?_)
    · have hf := ite2_t hf h44
      obtain ⟨z45, hz45, hf⟩ := bnd_e hf
      refine v_iinc C 2 (-1) 2 z45 rfl (by rw [hz45]; rfl) [(2, .int z45), (0, .ref (G.1 + a0)), (1, .ref (G.1 + a1)), (3, .int x3), (4, .int x4)] (by decide) rfl 139 rfl (by decide +kernel) ?_
      refine v_goto C 41 (by decide +kernel) ?_
      refine v_sub [1, 2, 0] rfl ?_
      exact hkh41 σ a0 a1 z45 hk_a0 hk_a1 hf
    · have hf := ite2_f hf h44
      refine v_aload_n C 0 0 rfl 78 rfl (by decide +kernel) ?_
      obtain ⟨b46, hb46, hf⟩ := drf_e hf
      obtain ⟨hk_b46, hf⟩ := grd_e hf
      refine v_getR C 4 6 hb46 rfl nin_4 (ns_kd_lt hk_a0 (by decide)) hk_a0 (by decide) (by decide) rfl 35 tw_226 rfl 81 rfl (by decide +kernel) ?_
      refine v_iload_n C 2 2 rfl 82 rfl (by decide +kernel) ?_
      refine v_iload C 4 4 rfl 84 rfl (by decide +kernel) ?_
      refine v_aload_n C 0 0 rfl 85 rfl (by decide +kernel) ?_
      obtain ⟨b47, hb47, hf⟩ := drf_e hf
      obtain ⟨hk_b47, hf⟩ := grd_e hf
      refine v_getR C 4 2 hb47 rfl nin_4 (ns_kd_lt hk_a0 (by decide)) hk_a0 (by decide) (by decide) rfl 18 tw_222 rfl 88 rfl (by decide +kernel) ?_
      refine v_iload_n C 2 2 rfl 89 rfl (by decide +kernel) ?_
      obtain ⟨hi48, hf⟩ := grd_e hf
      refine v_iald C (ns_kd_lt hk_b47 (by decide)) hk_b47 hi48 90 rfl (by decide +kernel) ?_
      obtain ⟨r50, σ49, hcr50, hf⟩ := cl2_e hf
      refine v_cVN C 2 rfl (ns_kd_lt hk_b46 (by decide)) hk_b46 (by decide) [.int x2, .int x4, .int (σ.1 b47 (ns_ix x2))] [] (c_Mule_standAt G l σ b46 x2 x4 (σ.1 b47 (ns_ix x2)) hcr50) 136 3 tw_652 tw_837 tw_651 ts_31 tw_4 hd_Mule_standAt rfl ⟨(Nat.le_of_ble_eq_true rfl), (Nat.le_of_ble_eq_true rfl)⟩ ⟨(Nat.le_of_ble_eq_true rfl), (Nat.le_of_ble_eq_true rfl)⟩ (Nat.le_of_ble_eq_true rfl) rfl 93 rfl (by decide +kernel) [] rfl ?_
      refine v_aload_n C 0 0 rfl 94 rfl (by decide +kernel) ?_
      refine v_aload_n C 0 0 rfl 95 rfl (by decide +kernel) ?_
      obtain ⟨b51, hb51, hf⟩ := drf_e hf
      obtain ⟨hk_b51, hf⟩ := grd_e hf
      refine v_getR C 4 6 hb51 rfl nin_4 (ns_kd_lt hk_a0 (by decide)) hk_a0 (by decide) (by decide) rfl 35 tw_226 rfl 98 rfl (by decide +kernel) ?_
      refine v_iconst C (0) (0) (by decide) 99 rfl (by decide +kernel) ?_
      obtain ⟨r53, σ52, hcr53, hf⟩ := cl2_e hf
      refine v_cV C 4 rfl (ns_kd_lt hk_a0 (by decide)) hk_a0 (by decide) [.ref (G.1 + b51), .int (0 : Int32)] [] (c_StonePlan_fallsNext G l σ49 a0 b51 (0 : Int32) hcr53) 110 2 tw_813 tw_810 tw_812 ts_53 tw_7 hd_StonePlan_fallsNext rfl ⟨(Nat.le_of_ble_eq_true rfl), (Nat.le_of_ble_eq_true rfl)⟩ ⟨(Nat.le_of_ble_eq_true rfl), (Nat.le_of_ble_eq_true rfl)⟩ (Nat.le_of_ble_eq_true rfl) rfl 102 rfl (by decide +kernel) [.int r53] rfl ?_
      refine v_if_ne C 130 105 rfl (by decide +kernel) (fun h54 => ?_) (fun h54 => ?_)
      · have hf := ite2_f hf h54
        obtain ⟨z55, hz55, hf⟩ := bnd_e hf
        refine v_iinc C 4 (1) 4 z55 rfl (by rw [hz55]; rfl) [(4, .int z55), (0, .ref (G.1 + a0)), (1, .ref (G.1 + a1)), (2, .int x2), (3, .int x3)] (by decide) rfl 133 rfl (by decide +kernel) ?_
        refine v_goto C 71 (by decide +kernel) ?_
        refine v_sub [1, 2, 3, 4, 0] rfl ?_
        exact ih σ52 a0 a1 x2 x3 z55 hk_a0 hk_a1 hf
      · have hf := ite2_t hf h54
        refine v_aload_n C 0 0 rfl 106 rfl (by decide +kernel) ?_
        refine v_aload_n C 0 0 rfl 107 rfl (by decide +kernel) ?_
        obtain ⟨b56, hb56, hf⟩ := drf_e hf
        obtain ⟨hk_b56, hf⟩ := grd_e hf
        refine v_getR C 4 6 hb56 rfl nin_4 (ns_kd_lt hk_a0 (by decide)) hk_a0 (by decide) (by decide) rfl 35 tw_226 rfl 110 rfl (by decide +kernel) ?_
        obtain ⟨r58, σ57, hcr58, hf⟩ := cl2_e hf
        refine v_cV C 4 rfl (ns_kd_lt hk_a0 (by decide)) hk_a0 (by decide) [.ref (G.1 + b56)] [] (c_StonePlan_isSafe G l σ52 a0 b56 hcr58) 120 1 tw_841 tw_838 tw_840 ts_58 tw_7 hd_StonePlan_isSafe rfl ⟨(Nat.le_of_ble_eq_true rfl), (Nat.le_of_ble_eq_true rfl)⟩ ⟨(Nat.le_of_ble_eq_true rfl), (Nat.le_of_ble_eq_true rfl)⟩ (Nat.le_of_ble_eq_true rfl) rfl 113 rfl (by decide +kernel) [.int r58] rfl ?_
        refine v_if_eq C 130 116 rfl (by decide +kernel) (fun h59 => ?_) (fun h59 => ?_)
        · have hf := ite2_t hf h59
          obtain ⟨z60, hz60, hf⟩ := bnd_e hf
          refine v_iinc C 4 (1) 4 z60 rfl (by rw [hz60]; rfl) [(4, .int z60), (0, .ref (G.1 + a0)), (1, .ref (G.1 + a1)), (2, .int x2), (3, .int x3)] (by decide) rfl 133 rfl (by decide +kernel) ?_
          refine v_goto C 71 (by decide +kernel) ?_
          refine v_sub [1, 2, 3, 4, 0] rfl ?_
          exact ih σ57 a0 a1 x2 x3 z60 hk_a0 hk_a1 hf
        · have hf := ite2_f hf h59
          refine v_aload_n C 0 0 rfl 117 rfl (by decide +kernel) ?_
          obtain ⟨b61, hb61, hf⟩ := drf_e hf
          obtain ⟨hk_b61, hf⟩ := grd_e hf
          refine v_getR C 4 0 hb61 rfl nin_4 (ns_kd_lt hk_a0 (by decide)) hk_a0 (by decide) (by decide) rfl 9 tw_220 rfl 120 rfl (by decide +kernel) ?_
          refine v_iload_n C 2 2 rfl 121 rfl (by decide +kernel) ?_
          refine v_dup2_11 C rfl rfl 122 rfl (by decide +kernel) ?_
          obtain ⟨hi62, hf⟩ := grd_e hf
          refine v_lald C (ns_kd_lt hk_b61 (by decide)) hk_b61 hi62 123 rfl (by decide +kernel) ?_
          refine v_iload C 4 4 rfl 125 rfl (by decide +kernel) ?_
          obtain ⟨r64, σ63, hcr64, hf⟩ := cl2_e hf
          refine v_cSN C [.int x4] [.long (σ57.2.1 b61 (ns_ix x2)), .int x2, .ref (G.1 + b61)] (c_N_bit G l σ57 x4 hcr64) 92 1 tw_468 tw_824 tw_467 tw_1 hd_N_bit rfl ⟨(Nat.le_of_ble_eq_true rfl), (Nat.le_of_ble_eq_true rfl)⟩ ⟨(Nat.le_of_ble_eq_true rfl), (Nat.le_of_ble_eq_true rfl)⟩ (Nat.le_of_ble_eq_true rfl) rfl 128 rfl (by decide +kernel) [.long r64, .long (σ57.2.1 b61 (ns_ix x2)), .int x2, .ref (G.1 + b61)] rfl ?_
          refine v_lor C 129 rfl (by decide +kernel) ?_
          obtain ⟨hi65, hf⟩ := grd_e hf
          obtain ⟨σ66, hσ66, hf⟩ := bnd_e hf
          refine v_last C hσ66 (ns_kd_lt hk_b61 (by decide)) hk_b61 hi65 130 rfl (by decide +kernel) ?_
          obtain ⟨z67, hz67, hf⟩ := bnd_e hf
          refine v_iinc C 4 (1) 4 z67 rfl (by rw [hz67]; rfl) [(4, .int z67), (0, .ref (G.1 + a0)), (1, .ref (G.1 + a1)), (2, .int x2), (3, .int x3)] (by decide) rfl 133 rfl (by decide +kernel) ?_
          refine v_goto C 71 (by decide +kernel) ?_
          refine v_sub [1, 2, 3, 4, 0] rfl ?_
          exact ih σ66 a0 a1 x2 x3 z67 hk_a0 hk_a1 hf
theorem t_StonePlan_fillSafe_41 (G : ns_G) (l : Launch) {p : Program} {e : Env} {s : State} {m : MethodId} {args : Array Value} {below : List Frame} {meth : Method} {c : Code} (C : ns_Cx G p s m args meth c prog_6_method_9_code "NinthStep$StonePlan" 5) (hr : meth.sig.returnType = none) {r : Unit} {σ' : ns_St}  : ∀ (f : Nat) (σ : ns_St) (a0 : Nat) (a1 : Nat) (x2 : Int32) (hk_a0 : ns_kd a0 = 4) (hk_a1 : ns_kd a1 = 2), g_StonePlan_fillSafe_41 f σ a0 a1 x2 = some (r, σ') → VV G p l e { frames := 3, cells := 0, slots := 0, locals := 69 } s m args below meth c 5 0 0 (MQ below (ns_Qc G none ns_N σ') args s 0 0 (ns_A G)) ns_N σ 41 [(0, .ref (G.1 + a0)), (1, .ref (G.1 + a1)), (2, .int x2)] [] := by
  intro f
  induction f with
  | zero =>
    intro σ a0 a1 x2 hk_a0 hk_a1 hf
    cases hf
  | succ f ih =>
    intro σ a0 a1 x2 hk_a0 hk_a1 hf
    rw [g_StonePlan_fillSafe_41] at hf
    refine v_iload_n C 2 2 rfl 42 rfl (by decide +kernel) ?_
    refine v_aload_n C 1 1 rfl 43 rfl (by decide +kernel) ?_
    refine v_getIN C 2 2 rfl nin_2 (ns_kd_lt hk_a1 (by decide)) hk_a1 (by decide) (by decide) rfl 107 tw_90 rfl 46 rfl (by decide +kernel) ?_
    refine v_icmp_lt C 142 49 rfl (by decide +kernel) (fun h68 => ?_) (fun h68 => ?_)
    · have hf := ite2_t hf h68
      cases hf
      exact v_vret C hr (by decide +kernel)
    · have hf := ite2_f hf h68
      refine v_aload_n C 0 0 rfl 50 rfl (by decide +kernel) ?_
      obtain ⟨b69, hb69, hf⟩ := drf_e hf
      obtain ⟨hk_b69, hf⟩ := grd_e hf
      refine v_getR C 4 0 hb69 rfl nin_4 (ns_kd_lt hk_a0 (by decide)) hk_a0 (by decide) (by decide) rfl 9 tw_220 rfl 53 rfl (by decide +kernel) ?_
      refine v_iload_n C 2 2 rfl 54 rfl (by decide +kernel) ?_
      refine v_lconst C 0 (0) (by decide) 55 rfl (by decide +kernel) ?_
      obtain ⟨hi70, hf⟩ := grd_e hf
      obtain ⟨σ71, hσ71, hf⟩ := bnd_e hf
      refine v_last C hσ71 (ns_kd_lt hk_b69 (by decide)) hk_b69 hi70 56 rfl (by decide +kernel) ?_
      refine v_aload_n C 0 0 rfl 57 rfl (by decide +kernel) ?_
      obtain ⟨b72, hb72, hf⟩ := drf_e hf
      obtain ⟨hk_b72, hf⟩ := grd_e hf
      refine v_getR C 4 2 hb72 rfl nin_4 (ns_kd_lt hk_a0 (by decide)) hk_a0 (by decide) (by decide) rfl 18 tw_222 rfl 60 rfl (by decide +kernel) ?_
      refine v_iload_n C 2 2 rfl 61 rfl (by decide +kernel) ?_
      obtain ⟨hi73, hf⟩ := grd_e hf
      refine v_iald C (ns_kd_lt hk_b72 (by decide)) hk_b72 hi73 62 rfl (by decide +kernel) ?_
      refine v_bipush C (63) (63) (by decide) 64 rfl (by decide +kernel) ?_
      obtain ⟨r75, σ74, hcr75, hf⟩ := cl2_e hf
      refine v_cS C [.int (σ71.1 b72 (ns_ix x2)), .int (63 : Int32)] [] (c_Math_min G l σ71 (σ71.1 b72 (ns_ix x2)) (63 : Int32) hcr75) 130 2 tw_663 tw_836 tw_662 tw_18 hd_Math_min rfl ⟨(Nat.le_of_ble_eq_true rfl), (Nat.le_of_ble_eq_true rfl)⟩ ⟨(Nat.le_of_ble_eq_true rfl), (Nat.le_of_ble_eq_true rfl)⟩ (Nat.le_of_ble_eq_true rfl) rfl 67 rfl (by decide +kernel) [.int r75] rfl ?_
      refine v_istore_n C 3 [(3, .int r75), (0, .ref (G.1 + a0)), (1, .ref (G.1 + a1)), (2, .int x2)] (by decide) rfl 68 rfl (by decide +kernel) ?_
      refine v_iconst C (0) (0) (by decide) 69 rfl (by decide +kernel) ?_
      refine v_istore C 4 [(4, .int (0 : Int32)), (3, .int r75), (0, .ref (G.1 + a0)), (1, .ref (G.1 + a1)), (2, .int x2)] (by decide) rfl 71 rfl (by decide +kernel) ?_
      refine v_sub [2, 3, 4, 1, 0] rfl ?_
      exact t_StonePlan_fillSafe_71 G l C hr ih ns_F σ74 a0 a1 x2 r75 (0 : Int32) hk_a0 hk_a1 hf
theorem c_StonePlan_fillSafe (G : ns_G) (l : Launch) (σ : ns_St) (a0 : Nat) (a1 : Nat) {r : Unit} {σ' : ns_St} (hf : g_StonePlan_fillSafe σ a0 a1 = some (r, σ')) : ns_ok G l ⟨"NinthStep$StonePlan", "fillSafe", "(LNinthStep$Mule;)V"⟩ prog_6_method_9_code 5 none 3 69 0 0 [.ref (G.1 + a0), .ref (G.1 + a1)] ns_N σ none ns_N σ' := by
  refine v_open (by decide) (Nat.le_of_ble_eq_true rfl) rfl ?_
  intro p e s m below meth c C hr _
  have C : ns_Cx G p s m _ meth c prog_6_method_9_code "NinthStep$StonePlan" 5 := C
  unfold g_StonePlan_fillSafe at hf
  obtain ⟨hk_a0, hf⟩ := grd_e hf
  obtain ⟨hk_a1, hf⟩ := grd_e hf
  refine v_aload_n C 1 1 rfl 1 rfl (by decide +kernel) ?_
  refine v_aload_n C 0 0 rfl 2 rfl (by decide +kernel) ?_
  obtain ⟨b76, hb76, hf⟩ := drf_e hf
  obtain ⟨hk_b76, hf⟩ := grd_e hf
  refine v_getR C 4 7 hb76 rfl nin_4 (ns_kd_lt hk_a0 (by decide)) hk_a0 (by decide) (by decide) rfl 44 tw_227 rfl 5 rfl (by decide +kernel) ?_
  refine v_aload_n C 0 0 rfl 6 rfl (by decide +kernel) ?_
  obtain ⟨b77, hb77, hf⟩ := drf_e hf
  obtain ⟨hk_b77, hf⟩ := grd_e hf
  refine v_getR C 4 6 hb77 rfl nin_4 (ns_kd_lt hk_a0 (by decide)) hk_a0 (by decide) (by decide) rfl 35 tw_226 rfl 9 rfl (by decide +kernel) ?_
  refine v_aload_n C 0 0 rfl 10 rfl (by decide +kernel) ?_
  obtain ⟨b78, hb78, hf⟩ := drf_e hf
  obtain ⟨hk_b78, hf⟩ := grd_e hf
  refine v_getR C 4 2 hb78 rfl nin_4 (ns_kd_lt hk_a0 (by decide)) hk_a0 (by decide) (by decide) rfl 18 tw_222 rfl 13 rfl (by decide +kernel) ?_
  obtain ⟨r80, σ79, hcr80, hf⟩ := cl2_e hf
  refine v_cSN C [.ref (G.1 + a1), .ref (G.1 + b76), .ref (G.1 + b77), .ref (G.1 + b78)] [] (c_N_tellNumbers G l σ a1 b76 b77 b78 hcr80) 126 4 tw_718 tw_835 tw_717 tw_1 hd_N_tellNumbers rfl ⟨(Nat.le_of_ble_eq_true rfl), (Nat.le_of_ble_eq_true rfl)⟩ ⟨(Nat.le_of_ble_eq_true rfl), (Nat.le_of_ble_eq_true rfl)⟩ (Nat.le_of_ble_eq_true rfl) rfl 16 rfl (by decide +kernel) [] rfl ?_
  refine v_aload_n C 0 0 rfl 17 rfl (by decide +kernel) ?_
  obtain ⟨b81, hb81, hf⟩ := drf_e hf
  obtain ⟨hk_b81, hf⟩ := grd_e hf
  refine v_getR C 4 0 hb81 rfl nin_4 (ns_kd_lt hk_a0 (by decide)) hk_a0 (by decide) (by decide) rfl 9 tw_220 rfl 20 rfl (by decide +kernel) ?_
  refine v_aload_n C 0 0 rfl 21 rfl (by decide +kernel) ?_
  obtain ⟨b82, hb82, hf⟩ := drf_e hf
  obtain ⟨hk_b82, hf⟩ := grd_e hf
  refine v_getR C 4 7 hb82 rfl nin_4 (ns_kd_lt hk_a0 (by decide)) hk_a0 (by decide) (by decide) rfl 44 tw_227 rfl 24 rfl (by decide +kernel) ?_
  refine v_getIN C 1 0 rfl nin_1 (ns_kd_lt hk_b82 (by decide)) hk_b82 (by decide) (by decide) rfl 87 tw_42 rfl 27 rfl (by decide +kernel) ?_
  refine v_ldc2 C 101 (-1) tw_826 30 rfl (by decide +kernel) ?_
  obtain ⟨hi83, hf⟩ := grd_e hf
  obtain ⟨σ84, hσ84, hf⟩ := bnd_e hf
  refine v_last C hσ84 (ns_kd_lt hk_b81 (by decide)) hk_b81 hi83 31 rfl (by decide +kernel) ?_
  refine v_aload_n C 0 0 rfl 32 rfl (by decide +kernel) ?_
  obtain ⟨b85, hb85, hf⟩ := drf_e hf
  obtain ⟨hk_b85, hf⟩ := grd_e hf
  refine v_getR C 4 7 hb85 rfl nin_4 (ns_kd_lt hk_a0 (by decide)) hk_a0 (by decide) (by decide) rfl 44 tw_227 rfl 35 rfl (by decide +kernel) ?_
  refine v_getIN C 1 0 rfl nin_1 (ns_kd_lt hk_b85 (by decide)) hk_b85 (by decide) (by decide) rfl 87 tw_42 rfl 38 rfl (by decide +kernel) ?_
  refine v_iconst C (1) (1) (by decide) 39 rfl (by decide +kernel) ?_
  refine v_isub C 40 rfl (by decide +kernel) ?_
  obtain ⟨z86, hz86, hf⟩ := bnd_e hf
  refine v_nmI hz86 ?_
  refine v_istore_n C 2 [(2, .int z86), (0, .ref (G.1 + a0)), (1, .ref (G.1 + a1))] (by decide) rfl 41 rfl (by decide +kernel) ?_
  refine v_sub [1, 2, 0] rfl ?_
  exact t_StonePlan_fillSafe_41 G l C hr  ns_F σ84 a0 a1 z86 hk_a0 hk_a1 hf
theorem hd_StonePlan_fillSafe : (⟨"NinthStep$StonePlan", "fillSafe", "(LNinthStep$Mule;)V"⟩ : MethodName).cls = "NinthStep$StonePlan" ∧ (⟨"NinthStep$StonePlan", "fillSafe", "(LNinthStep$Mule;)V"⟩ : MethodName).cls ≠ "java/lang/invoke/MethodHandle" ∧ (⟨"NinthStep$StonePlan", "fillSafe", "(LNinthStep$Mule;)V"⟩ : MethodName).cls ≠ "java/lang/invoke/VarHandle" ∧ (parseMethodDescriptor (⟨"NinthStep$StonePlan", "fillSafe", "(LNinthStep$Mule;)V"⟩ : MethodName).desc).map (fun d => d.parameters.length) = some 1 := by decide +kernel
def g_StonePlan_helpersAhead_75 (kh18 : ns_St → Nat → Nat → Int64 → Int32 → Option (Int64 × ns_St)) (σ : ns_St) (a0 : Nat) (a1 : Nat) (x2 : Int64) (x4 : Int32) : Option (Int64 × ns_St) := drf (σ.2.2 a0 5) fun b27 => grd (ns_kd b27 = 2) <| cl2 (g_StonePlan_fallsNext σ a0 b27 (0 : Int32)) fun r29 σ28 => ite2 (r29 = 0) (bnd (x4 + 1) fun z31 => kh18 σ28 a0 a1 x2 z31) (some (x2, σ28))
def g_StonePlan_helpersAhead_18  : Nat → ns_St → Nat → Nat → Int64 → Int32 → Option (Int64 × ns_St)
  | 0, _, _, _, _, _ => none
  | f + 1, σ, a0, a1, x2, x4 => drf (σ.2.2 a0 7) fun b32 => grd (ns_kd b32 = 1) <| ite2 ((σ.1 b32 0) < x4) (some (x2, σ)) (drf (σ.2.2 a0 6) fun b34 => grd (ns_kd b34 = 2) <| drf (σ.2.2 a0 5) fun b35 => grd (ns_kd b35 = 2) <| cl2 (g_Mule_takeFrom σ b34 b35) fun r37 σ36 => drf (σ36.2.2 a0 6) fun b38 => grd (ns_kd b38 = 2) <| cl2 (g_StonePlan_fallsNext σ36 a0 b38 (σ36.1 a1 7)) fun r40 σ39 => ite2 (r40 = 0) (drf (σ39.2.2 a0 6) fun b42 => grd (ns_kd b42 = 2) <| cl2 (g_StonePlan_isSafe σ39 a0 b42) fun r44 σ43 => ite2 (r44 = 0) (g_StonePlan_helpersAhead_75 (g_StonePlan_helpersAhead_18 f) σ43 a0 a1 x2 x4) (cl2 (g_N_bit σ43 x4) fun r47 σ46 => bnd (x2 ||| r47) fun z48 => g_StonePlan_helpersAhead_75 (g_StonePlan_helpersAhead_18 f) σ46 a0 a1 z48 x4)) (g_StonePlan_helpersAhead_75 (g_StonePlan_helpersAhead_18 f) σ39 a0 a1 x2 x4))
def g_StonePlan_helpersAhead (σ : ns_St) (a0 : Nat) (a1 : Nat) : Option (Int64 × ns_St) := grd (ns_kd a0 = 4) <| grd (ns_kd a1 = 2) <| drf (σ.2.2 a0 5) fun b49 => grd (ns_kd b49 = 2) <| cl2 (g_Mule_takeFrom σ b49 a1) fun r51 σ50 => bnd ((σ50.1 a1 2) + (1 : Int32)) fun z52 => g_StonePlan_helpersAhead_18 ns_F σ50 a0 a1 (0 : Int64) z52
theorem t_StonePlan_helpersAhead_75 (G : ns_G) (l : Launch) {p : Program} {e : Env} {s : State} {m : MethodId} {args : Array Value} {below : List Frame} {meth : Method} {c : Code} (C : ns_Cx G p s m args meth c prog_6_method_11_code "NinthStep$StonePlan" 5) (hr : meth.sig.returnType = (some .long)) {r : Int64} {σ' : ns_St} {kh18 : ns_St → Nat → Nat → Int64 → Int32 → Option (Int64 × ns_St)} (hkh18 : ∀ (σ : ns_St) (a0 : Nat) (a1 : Nat) (x2 : Int64) (x4 : Int32), ns_kd a0 = 4 → ns_kd a1 = 2 → kh18 σ a0 a1 x2 x4 = some (r, σ') → VV G p l e { frames := 3, cells := 0, slots := 0, locals := 67 } s m args below meth c 5 0 0 (MQ below (ns_Qc G (some (.long r)) ns_N σ') args s 0 0 (ns_A G)) ns_N σ 18 [(0, .ref (G.1 + a0)), (1, .ref (G.1 + a1)), (2, .long x2), (4, .int x4)] []) (σ : ns_St) (a0 : Nat) (a1 : Nat) (x2 : Int64) (x4 : Int32) (hk_a0 : ns_kd a0 = 4) (hk_a1 : ns_kd a1 = 2) (hf : g_StonePlan_helpersAhead_75 kh18 σ a0 a1 x2 x4 = some (r, σ')) : VV G p l e { frames := 3, cells := 0, slots := 0, locals := 67 } s m args below meth c 5 0 0 (MQ below (ns_Qc G (some (.long r)) ns_N σ') args s 0 0 (ns_A G)) ns_N σ 75 [(0, .ref (G.1 + a0)), (1, .ref (G.1 + a1)), (2, .long x2), (4, .int x4)] [] := by
  unfold g_StonePlan_helpersAhead_75 at hf
  refine v_aload_n C 0 0 rfl 76 rfl (by decide +kernel) ?_
  refine v_aload_n C 0 0 rfl 77 rfl (by decide +kernel) ?_
  obtain ⟨b27, hb27, hf⟩ := drf_e hf
  obtain ⟨hk_b27, hf⟩ := grd_e hf
  refine v_getR C 4 5 hb27 rfl nin_4 (ns_kd_lt hk_a0 (by decide)) hk_a0 (by decide) (by decide) rfl 32 tw_225 rfl 80 rfl (by decide +kernel) ?_
  refine v_iconst C (0) (0) (by decide) 81 rfl (by decide +kernel) ?_
  obtain ⟨r29, σ28, hcr29, hf⟩ := cl2_e hf
  refine v_cV C 4 rfl (ns_kd_lt hk_a0 (by decide)) hk_a0 (by decide) [.ref (G.1 + b27), .int (0 : Int32)] [] (c_StonePlan_fallsNext G l σ a0 b27 (0 : Int32) hcr29) 110 2 tw_813 tw_810 tw_812 ts_53 tw_7 hd_StonePlan_fallsNext rfl ⟨(Nat.le_of_ble_eq_true rfl), (Nat.le_of_ble_eq_true rfl)⟩ ⟨(Nat.le_of_ble_eq_true rfl), (Nat.le_of_ble_eq_true rfl)⟩ (Nat.le_of_ble_eq_true rfl) rfl 84 rfl (by decide +kernel) [.int r29] rfl ?_
  refine v_if_eq C 90 87 rfl (by decide +kernel) (fun h30 => ?_) (fun h30 => ?_)
  · have hf := ite2_t hf h30
    obtain ⟨z31, hz31, hf⟩ := bnd_e hf
    refine v_iinc C 4 (1) 3 z31 rfl (by rw [hz31]; rfl) [(4, .int z31), (0, .ref (G.1 + a0)), (1, .ref (G.1 + a1)), (2, .long x2)] (by decide) rfl 93 rfl (by decide +kernel) ?_
    refine v_goto C 18 (by decide +kernel) ?_
    refine v_sub [1, 2, 3, 0] rfl ?_
    exact hkh18 σ28 a0 a1 x2 z31 hk_a0 hk_a1 hf
  · have hf := ite2_f hf h30
    refine v_goto C 96 (by decide +kernel) ?_
    refine v_lload_n C 2 2 rfl 97 rfl (by decide +kernel) ?_
    cases hf
    exact v_lret C hr (by decide +kernel)
theorem t_StonePlan_helpersAhead_18 (G : ns_G) (l : Launch) {p : Program} {e : Env} {s : State} {m : MethodId} {args : Array Value} {below : List Frame} {meth : Method} {c : Code} (C : ns_Cx G p s m args meth c prog_6_method_11_code "NinthStep$StonePlan" 5) (hr : meth.sig.returnType = (some .long)) {r : Int64} {σ' : ns_St}  : ∀ (f : Nat) (σ : ns_St) (a0 : Nat) (a1 : Nat) (x2 : Int64) (x4 : Int32) (hk_a0 : ns_kd a0 = 4) (hk_a1 : ns_kd a1 = 2), g_StonePlan_helpersAhead_18 f σ a0 a1 x2 x4 = some (r, σ') → VV G p l e { frames := 3, cells := 0, slots := 0, locals := 67 } s m args below meth c 5 0 0 (MQ below (ns_Qc G (some (.long r)) ns_N σ') args s 0 0 (ns_A G)) ns_N σ 18 [(0, .ref (G.1 + a0)), (1, .ref (G.1 + a1)), (2, .long x2), (4, .int x4)] [] := by
  intro f
  induction f with
  | zero =>
    intro σ a0 a1 x2 x4 hk_a0 hk_a1 hf
    cases hf
  | succ f ih =>
    intro σ a0 a1 x2 x4 hk_a0 hk_a1 hf
    rw [g_StonePlan_helpersAhead_18] at hf
    refine v_iload C 4 3 rfl 20 rfl (by decide +kernel) ?_
    refine v_aload_n C 0 0 rfl 21 rfl (by decide +kernel) ?_
    obtain ⟨b32, hb32, hf⟩ := drf_e hf
    obtain ⟨hk_b32, hf⟩ := grd_e hf
    refine v_getR C 4 7 hb32 rfl nin_4 (ns_kd_lt hk_a0 (by decide)) hk_a0 (by decide) (by decide) rfl 44 tw_227 rfl 24 rfl (by decide +kernel) ?_
    refine v_getIN C 1 0 rfl nin_1 (ns_kd_lt hk_b32 (by decide)) hk_b32 (by decide) (by decide) rfl 87 tw_42 rfl 27 rfl (by decide +kernel) ?_
    refine v_icmp_gt C 96 30 rfl (by decide +kernel) (fun h33 => ?_) (fun h33 => ?_)
    · have hf := ite2_t hf h33
      refine v_lload_n C 2 2 rfl 97 rfl (by decide +kernel) ?_
      cases hf
      exact v_lret C hr (by decide +kernel)
    · have hf := ite2_f hf h33
      refine v_aload_n C 0 0 rfl 31 rfl (by decide +kernel) ?_
      obtain ⟨b34, hb34, hf⟩ := drf_e hf
      obtain ⟨hk_b34, hf⟩ := grd_e hf
      refine v_getR C 4 6 hb34 rfl nin_4 (ns_kd_lt hk_a0 (by decide)) hk_a0 (by decide) (by decide) rfl 35 tw_226 rfl 34 rfl (by decide +kernel) ?_
      refine v_aload_n C 0 0 rfl 35 rfl (by decide +kernel) ?_
      obtain ⟨b35, hb35, hf⟩ := drf_e hf
      obtain ⟨hk_b35, hf⟩ := grd_e hf
      refine v_getR C 4 5 hb35 rfl nin_4 (ns_kd_lt hk_a0 (by decide)) hk_a0 (by decide) (by decide) rfl 32 tw_225 rfl 38 rfl (by decide +kernel) ?_
      obtain ⟨r37, σ36, hcr37, hf⟩ := cl2_e hf
      refine v_cVN C 2 rfl (ns_kd_lt hk_b34 (by decide)) hk_b34 (by decide) [.ref (G.1 + b35)] [] (c_Mule_takeFrom G l σ b34 b35 hcr37) 103 1 tw_522 tw_809 tw_521 ts_19 tw_4 hd_Mule_takeFrom rfl ⟨(Nat.le_of_ble_eq_true rfl), (Nat.le_of_ble_eq_true rfl)⟩ ⟨(Nat.le_of_ble_eq_true rfl), (Nat.le_of_ble_eq_true rfl)⟩ (Nat.le_of_ble_eq_true rfl) rfl 41 rfl (by decide +kernel) [] rfl ?_
      refine v_aload_n C 0 0 rfl 42 rfl (by decide +kernel) ?_
      refine v_aload_n C 0 0 rfl 43 rfl (by decide +kernel) ?_
      obtain ⟨b38, hb38, hf⟩ := drf_e hf
      obtain ⟨hk_b38, hf⟩ := grd_e hf
      refine v_getR C 4 6 hb38 rfl nin_4 (ns_kd_lt hk_a0 (by decide)) hk_a0 (by decide) (by decide) rfl 35 tw_226 rfl 46 rfl (by decide +kernel) ?_
      refine v_aload_n C 1 1 rfl 47 rfl (by decide +kernel) ?_
      refine v_getIN C 2 7 rfl nin_2 (ns_kd_lt hk_a1 (by decide)) hk_a1 (by decide) (by decide) rfl 123 tw_107 rfl 50 rfl (by decide +kernel) ?_
      obtain ⟨r40, σ39, hcr40, hf⟩ := cl2_e hf
      refine v_cV C 4 rfl (ns_kd_lt hk_a0 (by decide)) hk_a0 (by decide) [.ref (G.1 + b38), .int (σ36.1 a1 7)] [] (c_StonePlan_fallsNext G l σ36 a0 b38 (σ36.1 a1 7) hcr40) 110 2 tw_813 tw_810 tw_812 ts_53 tw_7 hd_StonePlan_fallsNext rfl ⟨(Nat.le_of_ble_eq_true rfl), (Nat.le_of_ble_eq_true rfl)⟩ ⟨(Nat.le_of_ble_eq_true rfl), (Nat.le_of_ble_eq_true rfl)⟩ (Nat.le_of_ble_eq_true rfl) rfl 53 rfl (by decide +kernel) [.int r40] rfl ?_
      refine v_if_ne C 75 56 rfl (by decide +kernel) (fun h41 => ?_) (fun h41 => ?_)
      · have hf := ite2_f hf h41
        exact t_StonePlan_helpersAhead_75 G l C hr ih σ39 a0 a1 x2 x4 hk_a0 hk_a1 hf
      · have hf := ite2_t hf h41
        refine v_aload_n C 0 0 rfl 57 rfl (by decide +kernel) ?_
        refine v_aload_n C 0 0 rfl 58 rfl (by decide +kernel) ?_
        obtain ⟨b42, hb42, hf⟩ := drf_e hf
        obtain ⟨hk_b42, hf⟩ := grd_e hf
        refine v_getR C 4 6 hb42 rfl nin_4 (ns_kd_lt hk_a0 (by decide)) hk_a0 (by decide) (by decide) rfl 35 tw_226 rfl 61 rfl (by decide +kernel) ?_
        obtain ⟨r44, σ43, hcr44, hf⟩ := cl2_e hf
        refine v_cV C 4 rfl (ns_kd_lt hk_a0 (by decide)) hk_a0 (by decide) [.ref (G.1 + b42)] [] (c_StonePlan_isSafe G l σ39 a0 b42 hcr44) 120 1 tw_841 tw_838 tw_840 ts_58 tw_7 hd_StonePlan_isSafe rfl ⟨(Nat.le_of_ble_eq_true rfl), (Nat.le_of_ble_eq_true rfl)⟩ ⟨(Nat.le_of_ble_eq_true rfl), (Nat.le_of_ble_eq_true rfl)⟩ (Nat.le_of_ble_eq_true rfl) rfl 64 rfl (by decide +kernel) [.int r44] rfl ?_
        refine v_if_eq C 75 67 rfl (by decide +kernel) (fun h45 => ?_) (fun h45 => ?_)
        · have hf := ite2_t hf h45
          exact t_StonePlan_helpersAhead_75 G l C hr ih σ43 a0 a1 x2 x4 hk_a0 hk_a1 hf
        · have hf := ite2_f hf h45
          refine v_lload_n C 2 2 rfl 68 rfl (by decide +kernel) ?_
          refine v_iload C 4 3 rfl 70 rfl (by decide +kernel) ?_
          obtain ⟨r47, σ46, hcr47, hf⟩ := cl2_e hf
          refine v_cSN C [.int x4] [.long x2] (c_N_bit G l σ43 x4 hcr47) 92 1 tw_468 tw_824 tw_467 tw_1 hd_N_bit rfl ⟨(Nat.le_of_ble_eq_true rfl), (Nat.le_of_ble_eq_true rfl)⟩ ⟨(Nat.le_of_ble_eq_true rfl), (Nat.le_of_ble_eq_true rfl)⟩ (Nat.le_of_ble_eq_true rfl) rfl 73 rfl (by decide +kernel) [.long r47, .long x2] rfl ?_
          refine v_lor C 74 rfl (by decide +kernel) ?_
          obtain ⟨z48, hz48, hf⟩ := bnd_e hf
          refine v_nmJ hz48 ?_
          refine v_lstore_n C 2 [(2, .long z48), (0, .ref (G.1 + a0)), (1, .ref (G.1 + a1)), (4, .int x4)] (by decide) rfl 75 rfl (by decide +kernel) ?_
          refine v_sub [1, 2, 0, 3] rfl ?_
          exact t_StonePlan_helpersAhead_75 G l C hr ih σ46 a0 a1 z48 x4 hk_a0 hk_a1 hf
theorem c_StonePlan_helpersAhead (G : ns_G) (l : Launch) (σ : ns_St) (a0 : Nat) (a1 : Nat) {r : Int64} {σ' : ns_St} (hf : g_StonePlan_helpersAhead σ a0 a1 = some (r, σ')) : ns_ok G l ⟨"NinthStep$StonePlan", "helpersAhead", "(LNinthStep$Mule;)J"⟩ prog_6_method_11_code 5 (some .long) 3 67 0 0 [.ref (G.1 + a0), .ref (G.1 + a1)] ns_N σ (some (.long r)) ns_N σ' := by
  refine v_open (by decide) (Nat.le_of_ble_eq_true rfl) rfl ?_
  intro p e s m below meth c C hr _
  have C : ns_Cx G p s m _ meth c prog_6_method_11_code "NinthStep$StonePlan" 5 := C
  unfold g_StonePlan_helpersAhead at hf
  obtain ⟨hk_a0, hf⟩ := grd_e hf
  obtain ⟨hk_a1, hf⟩ := grd_e hf
  refine v_lconst C 0 (0) (by decide) 1 rfl (by decide +kernel) ?_
  refine v_lstore_n C 2 [(2, .long (0 : Int64)), (0, .ref (G.1 + a0)), (1, .ref (G.1 + a1))] (by decide) rfl 2 rfl (by decide +kernel) ?_
  refine v_aload_n C 0 1 rfl 3 rfl (by decide +kernel) ?_
  obtain ⟨b49, hb49, hf⟩ := drf_e hf
  obtain ⟨hk_b49, hf⟩ := grd_e hf
  refine v_getR C 4 5 hb49 rfl nin_4 (ns_kd_lt hk_a0 (by decide)) hk_a0 (by decide) (by decide) rfl 32 tw_225 rfl 6 rfl (by decide +kernel) ?_
  refine v_aload_n C 1 2 rfl 7 rfl (by decide +kernel) ?_
  obtain ⟨r51, σ50, hcr51, hf⟩ := cl2_e hf
  refine v_cVN C 2 rfl (ns_kd_lt hk_b49 (by decide)) hk_b49 (by decide) [.ref (G.1 + a1)] [] (c_Mule_takeFrom G l σ b49 a1 hcr51) 103 1 tw_522 tw_809 tw_521 ts_19 tw_4 hd_Mule_takeFrom rfl ⟨(Nat.le_of_ble_eq_true rfl), (Nat.le_of_ble_eq_true rfl)⟩ ⟨(Nat.le_of_ble_eq_true rfl), (Nat.le_of_ble_eq_true rfl)⟩ (Nat.le_of_ble_eq_true rfl) rfl 10 rfl (by decide +kernel) [] rfl ?_
  refine v_aload_n C 1 2 rfl 11 rfl (by decide +kernel) ?_
  refine v_getIN C 2 2 rfl nin_2 (ns_kd_lt hk_a1 (by decide)) hk_a1 (by decide) (by decide) rfl 107 tw_90 rfl 14 rfl (by decide +kernel) ?_
  refine v_iconst C (1) (1) (by decide) 15 rfl (by decide +kernel) ?_
  refine v_iadd C 16 rfl (by decide +kernel) ?_
  obtain ⟨z52, hz52, hf⟩ := bnd_e hf
  refine v_nmI hz52 ?_
  refine v_istore C 4 [(4, .int z52), (2, .long (0 : Int64)), (0, .ref (G.1 + a0)), (1, .ref (G.1 + a1))] (by decide) rfl 18 rfl (by decide +kernel) ?_
  refine v_sub [2, 3, 1, 0] rfl ?_
  exact t_StonePlan_helpersAhead_18 G l C hr  ns_F σ50 a0 a1 (0 : Int64) z52 hk_a0 hk_a1 hf
theorem hd_StonePlan_helpersAhead : (⟨"NinthStep$StonePlan", "helpersAhead", "(LNinthStep$Mule;)J"⟩ : MethodName).cls = "NinthStep$StonePlan" ∧ (⟨"NinthStep$StonePlan", "helpersAhead", "(LNinthStep$Mule;)J"⟩ : MethodName).cls ≠ "java/lang/invoke/MethodHandle" ∧ (⟨"NinthStep$StonePlan", "helpersAhead", "(LNinthStep$Mule;)J"⟩ : MethodName).cls ≠ "java/lang/invoke/VarHandle" ∧ (parseMethodDescriptor (⟨"NinthStep$StonePlan", "helpersAhead", "(LNinthStep$Mule;)J"⟩ : MethodName).desc).map (fun d => d.parameters.length) = some 1 := by decide +kernel
def g_StonePlan_helpersFor (σ : ns_St) (a0 : Nat) (a1 : Nat) : Option (Int64 × ns_St) := grd (ns_kd a0 = 4) <| grd (ns_kd a1 = 2) <| cl2 (g_StonePlan_fillSafe σ a0 a1) fun r11 σ10 => cl2 (g_StonePlan_helpersAhead σ10 a0 a1) fun r13 σ12 => cl2 (g_StonePlan_isSafe σ12 a0 a1) fun r15 σ14 => ite2 (r15 = 0) (some ((r13 ||| (0 : Int64)), σ14)) (cl2 (g_N_above σ14 (σ14.1 a1 2)) fun r18 σ17 => some ((r13 ||| (r18 ^^^ (-1 : Int64))), σ17))
theorem c_StonePlan_helpersFor (G : ns_G) (l : Launch) (σ : ns_St) (a0 : Nat) (a1 : Nat) {r : Int64} {σ' : ns_St} (hf : g_StonePlan_helpersFor σ a0 a1 = some (r, σ')) : ns_ok G l ⟨"NinthStep$StonePlan", "helpersFor", "(LNinthStep$Mule;)J"⟩ prog_6_method_7_code 2 (some .long) 4 93 0 0 [.ref (G.1 + a0), .ref (G.1 + a1)] ns_N σ (some (.long r)) ns_N σ' := by
  refine v_open (by decide) (Nat.le_of_ble_eq_true rfl) rfl ?_
  intro p e s m below meth c C hr _
  have C : ns_Cx G p s m _ meth c prog_6_method_7_code "NinthStep$StonePlan" 2 := C
  unfold g_StonePlan_helpersFor at hf
  obtain ⟨hk_a0, hf⟩ := grd_e hf
  obtain ⟨hk_a1, hf⟩ := grd_e hf
  refine v_aload_n C 0 0 rfl 1 rfl (by decide +kernel) ?_
  refine v_aload_n C 1 1 rfl 2 rfl (by decide +kernel) ?_
  obtain ⟨r11, σ10, hcr11, hf⟩ := cl2_e hf
  refine v_cV C 4 rfl (ns_kd_lt hk_a0 (by decide)) hk_a0 (by decide) [.ref (G.1 + a1)] [] (c_StonePlan_fillSafe G l σ a0 a1 hcr11) 114 1 tw_834 tw_831 tw_833 ts_57 tw_7 hd_StonePlan_fillSafe rfl ⟨(Nat.le_of_ble_eq_true rfl), (Nat.le_of_ble_eq_true rfl)⟩ ⟨(Nat.le_of_ble_eq_true rfl), (Nat.le_of_ble_eq_true rfl)⟩ (Nat.le_of_ble_eq_true rfl) rfl 5 rfl (by decide +kernel) [] rfl ?_
  refine v_aload_n C 0 0 rfl 6 rfl (by decide +kernel) ?_
  refine v_aload_n C 1 1 rfl 7 rfl (by decide +kernel) ?_
  obtain ⟨r13, σ12, hcr13, hf⟩ := cl2_e hf
  refine v_cV C 4 rfl (ns_kd_lt hk_a0 (by decide)) hk_a0 (by decide) [.ref (G.1 + a1)] [] (c_StonePlan_helpersAhead G l σ10 a0 a1 hcr13) 117 1 tw_846 tw_843 tw_845 ts_59 tw_7 hd_StonePlan_helpersAhead rfl ⟨(Nat.le_of_ble_eq_true rfl), (Nat.le_of_ble_eq_true rfl)⟩ ⟨(Nat.le_of_ble_eq_true rfl), (Nat.le_of_ble_eq_true rfl)⟩ (Nat.le_of_ble_eq_true rfl) rfl 10 rfl (by decide +kernel) [.long r13] rfl ?_
  refine v_aload_n C 0 0 rfl 11 rfl (by decide +kernel) ?_
  refine v_aload_n C 1 1 rfl 12 rfl (by decide +kernel) ?_
  obtain ⟨r15, σ14, hcr15, hf⟩ := cl2_e hf
  refine v_cV C 4 rfl (ns_kd_lt hk_a0 (by decide)) hk_a0 (by decide) [.ref (G.1 + a1)] [.long r13] (c_StonePlan_isSafe G l σ12 a0 a1 hcr15) 120 1 tw_841 tw_838 tw_840 ts_58 tw_7 hd_StonePlan_isSafe rfl ⟨(Nat.le_of_ble_eq_true rfl), (Nat.le_of_ble_eq_true rfl)⟩ ⟨(Nat.le_of_ble_eq_true rfl), (Nat.le_of_ble_eq_true rfl)⟩ (Nat.le_of_ble_eq_true rfl) rfl 15 rfl (by decide +kernel) [.int r15, .long r13] rfl ?_
  refine v_if_eq C 32 18 rfl (by decide +kernel) (fun h16 => ?_) (fun h16 => ?_)
  · have hf := ite2_t hf h16
    refine v_lconst C 0 (0) (by decide) 33 rfl (by decide +kernel) ?_
    refine v_lor C 34 rfl (by decide +kernel) ?_
    cases hf
    exact v_lret C hr (by decide +kernel)
  · have hf := ite2_f hf h16
    refine v_aload_n C 1 1 rfl 19 rfl (by decide +kernel) ?_
    refine v_getIN C 2 2 rfl nin_2 (ns_kd_lt hk_a1 (by decide)) hk_a1 (by decide) (by decide) rfl 107 tw_90 rfl 22 rfl (by decide +kernel) ?_
    obtain ⟨r18, σ17, hcr18, hf⟩ := cl2_e hf
    refine v_cSN C [.int (σ14.1 a1 2)] [.long r13] (c_N_above G l σ14 (σ14.1 a1 2) hcr18) 76 1 tw_406 tw_847 tw_405 tw_1 hd_N_above rfl ⟨(Nat.le_of_ble_eq_true rfl), (Nat.le_of_ble_eq_true rfl)⟩ ⟨(Nat.le_of_ble_eq_true rfl), (Nat.le_of_ble_eq_true rfl)⟩ (Nat.le_of_ble_eq_true rfl) rfl 25 rfl (by decide +kernel) [.long r18, .long r13] rfl ?_
    refine v_ldc2 C 101 (-1) tw_826 28 rfl (by decide +kernel) ?_
    refine v_lxor C 29 rfl (by decide +kernel) ?_
    refine v_goto C 33 (by decide +kernel) ?_
    refine v_lor C 34 rfl (by decide +kernel) ?_
    cases hf
    exact v_lret C hr (by decide +kernel)
theorem hd_StonePlan_helpersFor : (⟨"NinthStep$StonePlan", "helpersFor", "(LNinthStep$Mule;)J"⟩ : MethodName).cls = "NinthStep$StonePlan" ∧ (⟨"NinthStep$StonePlan", "helpersFor", "(LNinthStep$Mule;)J"⟩ : MethodName).cls ≠ "java/lang/invoke/MethodHandle" ∧ (⟨"NinthStep$StonePlan", "helpersFor", "(LNinthStep$Mule;)J"⟩ : MethodName).cls ≠ "java/lang/invoke/VarHandle" ∧ (parseMethodDescriptor (⟨"NinthStep$StonePlan", "helpersFor", "(LNinthStep$Mule;)J"⟩ : MethodName).desc).map (fun d => d.parameters.length) = some 1 := by decide +kernel
def g_StonePlan_isOneEnough_51  (σ : ns_St) (a0 : Nat) (x2 : Int64) : Option (Int32 × ns_St) := cl2 (g_N_firstOf σ x2) fun r19 σ18 => bnd (ns_pI σ18 a0 8 r19) fun σ20 => ite2 ((lg_cmp x2 (0 : Int64)) = 0) (some ((0 : Int32), σ20)) (some ((1 : Int32), σ20))
def g_StonePlan_isOneEnough_16  : Nat → ns_St → Nat → Nat → Int64 → Int32 → Option (Int32 × ns_St)
  | 0, _, _, _, _, _ => none
  | f + 1, σ, a0, a1, x2, x4 => ite2 ((σ.1 a1 2) ≤ x4) (g_StonePlan_isOneEnough_51 σ a0 x2) (ite2 ((lg_cmp x2 (0 : Int64)) = 0) (g_StonePlan_isOneEnough_51 σ a0 x2) (drf (σ.2.2 a1 1) fun b24 => grd (ns_kd b24 = 12) <| grd (ns_in x4 (ns_ln b24)) <| drf (σ.2.2 b24 (ns_ix x4)) fun b26 => grd (ns_kd b26 = 2) <| cl2 (g_StonePlan_helpersFor σ a0 b26) fun r28 σ27 => bnd (x2 &&& r28) fun z29 => bnd (x4 + 1) fun z30 => (g_StonePlan_isOneEnough_16 f) σ27 a0 a1 z29 z30))
def g_StonePlan_isOneEnough (σ : ns_St) (a0 : Nat) (a1 : Nat) : Option (Int32 × ns_St) := grd (ns_kd a0 = 4) <| grd (ns_kd a1 = 7) <| drf (σ.2.2 a1 0) fun b31 => grd (ns_kd b31 = 1) <| bnd (ns_pR σ a0 7 (some b31)) fun σ32 => cl2 (g_StonePlan_freePlaces σ32 a0) fun r34 σ33 => g_StonePlan_isOneEnough_16 ns_F σ33 a0 a1 r34 (0 : Int32)
theorem t_StonePlan_isOneEnough_51 (G : ns_G) (l : Launch) {p : Program} {e : Env} {s : State} {m : MethodId} {args : Array Value} {below : List Frame} {meth : Method} {c : Code} (C : ns_Cx G p s m args meth c prog_6_method_3_code "NinthStep$StonePlan" 5) (hr : meth.sig.returnType = (some .boolean)) {r : Int32} {σ' : ns_St}  (σ : ns_St) (a0 : Nat) (x2 : Int64) (hk_a0 : ns_kd a0 = 4) (hf : g_StonePlan_isOneEnough_51 σ a0 x2 = some (r, σ')) : VV G p l e { frames := 5, cells := 0, slots := 0, locals := 114 } s m args below meth c 5 0 0 (MQ below (ns_Qc G (some (.int r)) ns_N σ') args s 0 0 (ns_A G)) ns_N σ 51 [(0, .ref (G.1 + a0)), (2, .long x2)] [] := by
  unfold g_StonePlan_isOneEnough_51 at hf
  refine v_aload_n C 0 0 rfl 52 rfl (by decide +kernel) ?_
  refine v_lload_n C 2 1 rfl 53 rfl (by decide +kernel) ?_
  obtain ⟨r19, σ18, hcr19, hf⟩ := cl2_e hf
  refine v_cSN C [.long x2] [.ref (G.1 + a0)] (c_N_firstOf G l σ x2 hcr19) 65 1 tw_416 tw_848 tw_415 tw_1 hd_N_firstOf rfl ⟨(Nat.le_of_ble_eq_true rfl), (Nat.le_of_ble_eq_true rfl)⟩ ⟨(Nat.le_of_ble_eq_true rfl), (Nat.le_of_ble_eq_true rfl)⟩ (Nat.le_of_ble_eq_true rfl) rfl 56 rfl (by decide +kernel) [.int r19, .ref (G.1 + a0)] rfl ?_
  obtain ⟨σ20, hσ20, hf⟩ := bnd_e hf
  refine v_putI C 4 8 hσ20 rfl nin_4 ny_4 nty_4 nnm_4 (ns_kd_lt hk_a0 (by decide)) hk_a0 (by decide) (by decide) rfl rfl rfl rfl 69 tw_228 rfl 59 rfl (by decide +kernel) ?_
  refine v_lload_n C 2 1 rfl 60 rfl (by decide +kernel) ?_
  refine v_lconst C 0 (0) (by decide) 61 rfl (by decide +kernel) ?_
  refine v_lcmp C 62 rfl (by decide +kernel) ?_
  refine v_if_eq C 69 65 rfl (by decide +kernel) (fun h21 => ?_) (fun h21 => ?_)
  · have hf := ite2_t hf h21
    refine v_iconst C (0) (0) (by decide) 70 rfl (by decide +kernel) ?_
    cases hf
    exact v_zret C hr rfl (by decide +kernel)
  · have hf := ite2_f hf h21
    refine v_iconst C (1) (1) (by decide) 66 rfl (by decide +kernel) ?_
    refine v_goto C 70 (by decide +kernel) ?_
    cases hf
    exact v_zret C hr rfl (by decide +kernel)
theorem t_StonePlan_isOneEnough_16 (G : ns_G) (l : Launch) {p : Program} {e : Env} {s : State} {m : MethodId} {args : Array Value} {below : List Frame} {meth : Method} {c : Code} (C : ns_Cx G p s m args meth c prog_6_method_3_code "NinthStep$StonePlan" 5) (hr : meth.sig.returnType = (some .boolean)) {r : Int32} {σ' : ns_St}  : ∀ (f : Nat) (σ : ns_St) (a0 : Nat) (a1 : Nat) (x2 : Int64) (x4 : Int32) (hk_a0 : ns_kd a0 = 4) (hk_a1 : ns_kd a1 = 7), g_StonePlan_isOneEnough_16 f σ a0 a1 x2 x4 = some (r, σ') → VV G p l e { frames := 5, cells := 0, slots := 0, locals := 114 } s m args below meth c 5 0 0 (MQ below (ns_Qc G (some (.int r)) ns_N σ') args s 0 0 (ns_A G)) ns_N σ 16 [(0, .ref (G.1 + a0)), (1, .ref (G.1 + a1)), (2, .long x2), (4, .int x4)] [] := by
  intro f
  induction f with
  | zero =>
    intro σ a0 a1 x2 x4 hk_a0 hk_a1 hf
    cases hf
  | succ f ih =>
    intro σ a0 a1 x2 x4 hk_a0 hk_a1 hf
    rw [g_StonePlan_isOneEnough_16] at hf
    refine v_iload C 4 3 rfl 18 rfl (by decide +kernel) ?_
    refine v_aload_n C 1 1 rfl 19 rfl (by decide +kernel) ?_
    refine v_getIN C 7 2 rfl nin_7 (ns_kd_lt hk_a1 (by decide)) hk_a1 (by decide) (by decide) rfl 45 tw_132 rfl 22 rfl (by decide +kernel) ?_
    refine v_icmp_ge C 51 25 rfl (by decide +kernel) (fun h22 => ?_) (fun h22 => ?_)
    · have hf := ite2_t hf h22
      refine v_sub [0, 2] rfl ?_
      exact t_StonePlan_isOneEnough_51 G l C hr  σ a0 x2 hk_a0 hf
    · have hf := ite2_f hf h22
      refine v_lload_n C 2 2 rfl 26 rfl (by decide +kernel) ?_
      refine v_lconst C 0 (0) (by decide) 27 rfl (by decide +kernel) ?_
      refine v_lcmp C 28 rfl (by decide +kernel) ?_
      refine v_if_eq C 51 31 rfl (by decide +kernel) (fun h23 => ?_) (fun h23 => ?_)
      · have hf := ite2_t hf h23
        refine v_sub [0, 2] rfl ?_
        exact t_StonePlan_isOneEnough_51 G l C hr  σ a0 x2 hk_a0 hf
      · have hf := ite2_f hf h23
        refine v_lload_n C 2 2 rfl 32 rfl (by decide +kernel) ?_
        refine v_aload_n C 0 0 rfl 33 rfl (by decide +kernel) ?_
        refine v_aload_n C 1 1 rfl 34 rfl (by decide +kernel) ?_
        obtain ⟨b24, hb24, hf⟩ := drf_e hf
        obtain ⟨hk_b24, hf⟩ := grd_e hf
        refine v_getRN C 7 1 hb24 rfl nin_7 (ns_kd_lt hk_a1 (by decide)) hk_a1 (by decide) (by decide) rfl 49 tw_130 rfl 37 rfl (by decide +kernel) ?_
        refine v_iload C 4 3 rfl 39 rfl (by decide +kernel) ?_
        obtain ⟨hi25, hf⟩ := grd_e hf
        obtain ⟨b26, hb26, hf⟩ := drf_e hf
        obtain ⟨hk_b26, hf⟩ := grd_e hf
        refine v_aald C 12 (by decide) (ns_kd_lt hk_b24 (by decide)) hk_b24 hi25 hb26 40 rfl (by decide +kernel) ?_
        obtain ⟨r28, σ27, hcr28, hf⟩ := cl2_e hf
        refine v_cV C 4 rfl (ns_kd_lt hk_a0 (by decide)) hk_a0 (by decide) [.ref (G.1 + b26)] [.long x2] (c_StonePlan_helpersFor G l σ a0 b26 hcr28) 61 1 tw_830 tw_827 tw_829 ts_56 tw_7 hd_StonePlan_helpersFor rfl ⟨(Nat.le_of_ble_eq_true rfl), (Nat.le_of_ble_eq_true rfl)⟩ ⟨(Nat.le_of_ble_eq_true rfl), (Nat.le_of_ble_eq_true rfl)⟩ (Nat.le_of_ble_eq_true rfl) rfl 43 rfl (by decide +kernel) [.long r28, .long x2] rfl ?_
        refine v_land C 44 rfl (by decide +kernel) ?_
        obtain ⟨z29, hz29, hf⟩ := bnd_e hf
        refine v_nmJ hz29 ?_
        refine v_lstore_n C 2 [(2, .long z29), (0, .ref (G.1 + a0)), (1, .ref (G.1 + a1)), (4, .int x4)] (by decide) rfl 45 rfl (by decide +kernel) ?_
        obtain ⟨z30, hz30, hf⟩ := bnd_e hf
        refine v_iinc C 4 (1) 3 z30 rfl (by rw [hz30]; rfl) [(4, .int z30), (2, .long z29), (0, .ref (G.1 + a0)), (1, .ref (G.1 + a1))] (by decide) rfl 48 rfl (by decide +kernel) ?_
        refine v_goto C 16 (by decide +kernel) ?_
        refine v_sub [2, 3, 1, 0] rfl ?_
        exact ih σ27 a0 a1 z29 z30 hk_a0 hk_a1 hf
theorem c_StonePlan_isOneEnough (G : ns_G) (l : Launch) (σ : ns_St) (a0 : Nat) (a1 : Nat) {r : Int32} {σ' : ns_St} (hf : g_StonePlan_isOneEnough σ a0 a1 = some (r, σ')) : ns_ok G l ⟨"NinthStep$StonePlan", "isOneEnough", "(LNinthStep$World;)Z"⟩ prog_6_method_3_code 5 (some .boolean) 5 114 0 0 [.ref (G.1 + a0), .ref (G.1 + a1)] ns_N σ (some (.int r)) ns_N σ' := by
  refine v_open (by decide) (Nat.le_of_ble_eq_true rfl) rfl ?_
  intro p e s m below meth c C hr _
  have C : ns_Cx G p s m _ meth c prog_6_method_3_code "NinthStep$StonePlan" 5 := C
  unfold g_StonePlan_isOneEnough at hf
  obtain ⟨hk_a0, hf⟩ := grd_e hf
  obtain ⟨hk_a1, hf⟩ := grd_e hf
  refine v_aload_n C 0 0 rfl 1 rfl (by decide +kernel) ?_
  refine v_aload_n C 1 1 rfl 2 rfl (by decide +kernel) ?_
  obtain ⟨b31, hb31, hf⟩ := drf_e hf
  obtain ⟨hk_b31, hf⟩ := grd_e hf
  refine v_getRN C 7 0 hb31 rfl nin_7 (ns_kd_lt hk_a1 (by decide)) hk_a1 (by decide) (by decide) rfl 38 tw_126 rfl 5 rfl (by decide +kernel) ?_
  obtain ⟨σ32, hσ32, hf⟩ := bnd_e hf
  refine v_putR C 4 7 hσ32 rfl nin_4 ny_4 nty_4 nnm_4 (ns_kd_lt hk_a0 (by decide)) hk_a0 (by decide) (by decide) rfl rfl rfl rfl 44 tw_227 rfl 8 rfl (by decide +kernel) ?_
  refine v_aload_n C 0 0 rfl 9 rfl (by decide +kernel) ?_
  obtain ⟨r34, σ33, hcr34, hf⟩ := cl2_e hf
  refine v_cV C 4 rfl (ns_kd_lt hk_a0 (by decide)) hk_a0 (by decide) [] [] (c_StonePlan_freePlaces G l σ32 a0 hcr34) 57 0 tw_823 tw_820 tw_822 ts_55 tw_7 hd_StonePlan_freePlaces rfl ⟨(Nat.le_of_ble_eq_true rfl), (Nat.le_of_ble_eq_true rfl)⟩ ⟨(Nat.le_of_ble_eq_true rfl), (Nat.le_of_ble_eq_true rfl)⟩ (Nat.le_of_ble_eq_true rfl) rfl 12 rfl (by decide +kernel) [.long r34] rfl ?_
  refine v_lstore_n C 2 [(2, .long r34), (0, .ref (G.1 + a0)), (1, .ref (G.1 + a1))] (by decide) rfl 13 rfl (by decide +kernel) ?_
  refine v_iconst C (0) (0) (by decide) 14 rfl (by decide +kernel) ?_
  refine v_istore C 4 [(4, .int (0 : Int32)), (2, .long r34), (0, .ref (G.1 + a0)), (1, .ref (G.1 + a1))] (by decide) rfl 16 rfl (by decide +kernel) ?_
  refine v_sub [2, 3, 1, 0] rfl ?_
  exact t_StonePlan_isOneEnough_16 G l C hr  ns_F σ33 a0 a1 r34 (0 : Int32) hk_a0 hk_a1 hf
theorem hd_StonePlan_isOneEnough : (⟨"NinthStep$StonePlan", "isOneEnough", "(LNinthStep$World;)Z"⟩ : MethodName).cls = "NinthStep$StonePlan" ∧ (⟨"NinthStep$StonePlan", "isOneEnough", "(LNinthStep$World;)Z"⟩ : MethodName).cls ≠ "java/lang/invoke/MethodHandle" ∧ (⟨"NinthStep$StonePlan", "isOneEnough", "(LNinthStep$World;)Z"⟩ : MethodName).cls ≠ "java/lang/invoke/VarHandle" ∧ (parseMethodDescriptor (⟨"NinthStep$StonePlan", "isOneEnough", "(LNinthStep$World;)Z"⟩ : MethodName).desc).map (fun d => d.parameters.length) = some 1 := by decide +kernel
def g_StonePlan_heedSeconds_161 (kh55 : ns_St → Nat → Nat → Int32 → Int32 → Option (Unit × ns_St)) (σ : ns_St) (a0 : Nat) (a1 : Nat) (x5 : Int32) : Option (Unit × ns_St) := bnd (x5 + 1) fun z41 => kh55 σ a0 a1 (1 : Int32) z41
def g_StonePlan_heedSeconds_144 (kh55 : ns_St → Nat → Nat → Int32 → Int32 → Option (Unit × ns_St)) (σ : ns_St) (a0 : Nat) (a1 : Nat) (x4 : Int32) (x5 : Int32) : Option (Unit × ns_St) := ite2 (x4 = 0) (drf (σ.2.2 a0 3) fun b43 => grd (ns_kd b43 = 2) <| cl2 (g_StonePlan_fallsNext σ a0 b43 (0 : Int32)) fun r45 σ44 => ite2 (r45 = 0) (bnd (x5 + 1) fun z47 => kh55 σ44 a0 a1 (0 : Int32) z47) (g_StonePlan_heedSeconds_161 kh55 σ44 a0 a1 x5)) (g_StonePlan_heedSeconds_161 kh55 σ a0 a1 x5)
def g_StonePlan_heedSeconds_142 (kh55 : ns_St → Nat → Nat → Int32 → Int32 → Option (Unit × ns_St)) (σ : ns_St) (s0 : Nat) (s1 : Int32) (s2 : Int64) (s3 : Int64) (a0 : Nat) (a1 : Nat) (x4 : Int32) (x5 : Int32) : Option (Unit × ns_St) := grd (ns_in s1 (ns_ln s0)) <| bnd (ns_pJ σ s0 (ns_ix s1) (s2 &&& s3)) fun σ49 => g_StonePlan_heedSeconds_144 kh55 σ49 a0 a1 x4 x5
def g_StonePlan_heedSeconds_115 (kh55 : ns_St → Nat → Nat → Int32 → Int32 → Option (Unit × ns_St)) (σ : ns_St) (s0 : Int32) (a0 : Nat) (a1 : Nat) (x4 : Int32) (x5 : Int32) : Option (Unit × ns_St) := drf (σ.2.2 a0 1) fun b50 => grd (ns_kd b50 = 11) <| grd (ns_in x5 (ns_ln b50)) <| ite2 (s0 = 0) (g_StonePlan_heedSeconds_142 kh55 σ b50 x5 (σ.2.1 b50 (ns_ix x5)) (0 : Int64) a0 a1 x4 x5) (drf (σ.2.2 a0 4) fun b53 => grd (ns_kd b53 = 2) <| cl2 (g_StonePlan_helpersAhead σ a0 b53) fun r55 σ54 => g_StonePlan_heedSeconds_142 kh55 σ54 b50 x5 (σ.2.1 b50 (ns_ix x5)) r55 a0 a1 x4 x5)
def g_StonePlan_heedSeconds_114 (kh55 : ns_St → Nat → Nat → Int32 → Int32 → Option (Unit × ns_St)) (σ : ns_St) (a0 : Nat) (a1 : Nat) (x4 : Int32) (x5 : Int32) : Option (Unit × ns_St) := g_StonePlan_heedSeconds_115 kh55 σ (0 : Int32) a0 a1 x4 x5
def g_StonePlan_heedSeconds_55  : Nat → ns_St → Nat → Nat → Int32 → Int32 → Option (Unit × ns_St)
  | 0, _, _, _, _, _ => none
  | f + 1, σ, a0, a1, x4, x5 => drf (σ.2.2 a0 7) fun b56 => grd (ns_kd b56 = 1) <| ite2 ((σ.1 b56 0) < x5) (some ((), σ)) (drf (σ.2.2 a0 1) fun b58 => grd (ns_kd b58 = 11) <| grd (ns_in x5 (ns_ln b58)) <| ite2 ((lg_cmp (σ.2.1 b58 (ns_ix x5)) (0 : Int64)) = 0) (g_StonePlan_heedSeconds_144 (g_StonePlan_heedSeconds_55 f) σ a0 a1 x4 x5) (drf (σ.2.2 a0 4) fun b61 => grd (ns_kd b61 = 2) <| drf (σ.2.2 a0 3) fun b62 => grd (ns_kd b62 = 2) <| cl2 (g_Mule_takeFrom σ b61 b62) fun r64 σ63 => ite2 (x4 = 0) (drf (σ63.2.2 a0 4) fun b66 => grd (ns_kd b66 = 2) <| cl2 (g_StonePlan_fallsNext σ63 a0 b66 (σ63.1 a1 7)) fun r68 σ67 => ite2 (r68 = 0) (g_StonePlan_heedSeconds_115 (g_StonePlan_heedSeconds_55 f) σ67 (1 : Int32) a0 a1 x4 x5) (g_StonePlan_heedSeconds_114 (g_StonePlan_heedSeconds_55 f) σ67 a0 a1 x4 x5)) (g_StonePlan_heedSeconds_114 (g_StonePlan_heedSeconds_55 f) σ63 a0 a1 x4 x5)))
def g_StonePlan_heedSeconds_36  (σ : ns_St) (a0 : Nat) (a1 : Nat) : Option (Unit × ns_St) := drf (σ.2.2 a0 3) fun b70 => grd (ns_kd b70 = 2) <| cl2 (g_Mule_takeFrom σ b70 a1) fun r72 σ71 => bnd ((σ71.1 a1 2) + (1 : Int32)) fun z73 => g_StonePlan_heedSeconds_55 ns_F σ71 a0 a1 (0 : Int32) z73
def g_StonePlan_heedSeconds_3  : Nat → ns_St → Nat → Nat → Int64 → Int32 → Option (Unit × ns_St)
  | 0, _, _, _, _, _ => none
  | f + 1, σ, a0, a1, x2, x4 => ite2 ((σ.1 a1 2) < x4) (g_StonePlan_heedSeconds_36 σ a0 a1) (ite2 ((61 : Int32) ≤ x4) (g_StonePlan_heedSeconds_36 σ a0 a1) (drf (σ.2.2 a0 1) fun b76 => grd (ns_kd b76 = 11) <| grd (ns_in x4 (ns_ln b76)) <| grd (ns_in x4 (ns_ln b76)) <| bnd (ns_pJ σ b76 (ns_ix x4) ((σ.2.1 b76 (ns_ix x4)) &&& x2)) fun σ79 => bnd (x4 + 1) fun z80 => (g_StonePlan_heedSeconds_3 f) σ79 a0 a1 x2 z80))
def g_StonePlan_heedSeconds (σ : ns_St) (a0 : Nat) (a1 : Nat) (x2 : Int64) : Option (Unit × ns_St) := grd (ns_kd a0 = 4) <| grd (ns_kd a1 = 2) <| g_StonePlan_heedSeconds_3 ns_F σ a0 a1 x2 (0 : Int32)
theorem t_StonePlan_heedSeconds_161 (G : ns_G) (l : Launch) {p : Program} {e : Env} {s : State} {m : MethodId} {args : Array Value} {below : List Frame} {meth : Method} {c : Code} (C : ns_Cx G p s m args meth c prog_6_method_8_code "NinthStep$StonePlan" 7) (hr : meth.sig.returnType = none) {r : Unit} {σ' : ns_St} {kh55 : ns_St → Nat → Nat → Int32 → Int32 → Option (Unit × ns_St)} (hkh55 : ∀ (σ : ns_St) (a0 : Nat) (a1 : Nat) (x4 : Int32) (x5 : Int32), ns_kd a0 = 4 → ns_kd a1 = 2 → kh55 σ a0 a1 x4 x5 = some (r, σ') → VV G p l e { frames := 4, cells := 0, slots := 0, locals := 91 } s m args below meth c 7 0 0 (MQ below (ns_Qc G none ns_N σ') args s 0 0 (ns_A G)) ns_N σ 55 [(0, .ref (G.1 + a0)), (1, .ref (G.1 + a1)), (4, .int x4), (5, .int x5)] []) (σ : ns_St) (a0 : Nat) (a1 : Nat) (x5 : Int32) (hk_a0 : ns_kd a0 = 4) (hk_a1 : ns_kd a1 = 2) (hf : g_StonePlan_heedSeconds_161 kh55 σ a0 a1 x5 = some (r, σ')) : VV G p l e { frames := 4, cells := 0, slots := 0, locals := 91 } s m args below meth c 7 0 0 (MQ below (ns_Qc G none ns_N σ') args s 0 0 (ns_A G)) ns_N σ 161 [(0, .ref (G.1 + a0)), (1, .ref (G.1 + a1)), (5, .int x5)] [] := by
  unfold g_StonePlan_heedSeconds_161 at hf
  refine v_iconst C (1) (1) (by decide) 162 rfl (by decide +kernel) ?_
  refine v_goto C 166 (by decide +kernel) ?_
  refine v_istore C 4 [(4, .int (1 : Int32)), (0, .ref (G.1 + a0)), (1, .ref (G.1 + a1)), (5, .int x5)] (by decide) rfl 168 rfl (by decide +kernel) ?_
  obtain ⟨z41, hz41, hf⟩ := bnd_e hf
  refine v_iinc C 5 (1) 3 z41 rfl (by rw [hz41]; rfl) [(5, .int z41), (4, .int (1 : Int32)), (0, .ref (G.1 + a0)), (1, .ref (G.1 + a1))] (by decide) rfl 171 rfl (by decide +kernel) ?_
  refine v_goto C 55 (by decide +kernel) ?_
  refine v_sub [2, 3, 1, 0] rfl ?_
  exact hkh55 σ a0 a1 (1 : Int32) z41 hk_a0 hk_a1 hf
theorem t_StonePlan_heedSeconds_144 (G : ns_G) (l : Launch) {p : Program} {e : Env} {s : State} {m : MethodId} {args : Array Value} {below : List Frame} {meth : Method} {c : Code} (C : ns_Cx G p s m args meth c prog_6_method_8_code "NinthStep$StonePlan" 7) (hr : meth.sig.returnType = none) {r : Unit} {σ' : ns_St} {kh55 : ns_St → Nat → Nat → Int32 → Int32 → Option (Unit × ns_St)} (hkh55 : ∀ (σ : ns_St) (a0 : Nat) (a1 : Nat) (x4 : Int32) (x5 : Int32), ns_kd a0 = 4 → ns_kd a1 = 2 → kh55 σ a0 a1 x4 x5 = some (r, σ') → VV G p l e { frames := 4, cells := 0, slots := 0, locals := 91 } s m args below meth c 7 0 0 (MQ below (ns_Qc G none ns_N σ') args s 0 0 (ns_A G)) ns_N σ 55 [(0, .ref (G.1 + a0)), (1, .ref (G.1 + a1)), (4, .int x4), (5, .int x5)] []) (σ : ns_St) (a0 : Nat) (a1 : Nat) (x4 : Int32) (x5 : Int32) (hk_a0 : ns_kd a0 = 4) (hk_a1 : ns_kd a1 = 2) (hf : g_StonePlan_heedSeconds_144 kh55 σ a0 a1 x4 x5 = some (r, σ')) : VV G p l e { frames := 4, cells := 0, slots := 0, locals := 91 } s m args below meth c 7 0 0 (MQ below (ns_Qc G none ns_N σ') args s 0 0 (ns_A G)) ns_N σ 144 [(0, .ref (G.1 + a0)), (1, .ref (G.1 + a1)), (4, .int x4), (5, .int x5)] [] := by
  unfold g_StonePlan_heedSeconds_144 at hf
  refine v_iload C 4 2 rfl 146 rfl (by decide +kernel) ?_
  refine v_if_ne C 161 149 rfl (by decide +kernel) (fun h42 => ?_) (fun h42 => ?_)
  · have hf := ite2_f hf h42
    refine v_sub [0, 1, 3] rfl ?_
    exact t_StonePlan_heedSeconds_161 G l C hr hkh55 σ a0 a1 x5 hk_a0 hk_a1 hf
  · have hf := ite2_t hf h42
    refine v_aload_n C 0 0 rfl 150 rfl (by decide +kernel) ?_
    refine v_aload_n C 0 0 rfl 151 rfl (by decide +kernel) ?_
    obtain ⟨b43, hb43, hf⟩ := drf_e hf
    obtain ⟨hk_b43, hf⟩ := grd_e hf
    refine v_getR C 4 3 hb43 rfl nin_4 (ns_kd_lt hk_a0 (by decide)) hk_a0 (by decide) (by decide) rfl 25 tw_223 rfl 154 rfl (by decide +kernel) ?_
    refine v_iconst C (0) (0) (by decide) 155 rfl (by decide +kernel) ?_
    obtain ⟨r45, σ44, hcr45, hf⟩ := cl2_e hf
    refine v_cV C 4 rfl (ns_kd_lt hk_a0 (by decide)) hk_a0 (by decide) [.ref (G.1 + b43), .int (0 : Int32)] [] (c_StonePlan_fallsNext G l σ a0 b43 (0 : Int32) hcr45) 110 2 tw_813 tw_810 tw_812 ts_53 tw_7 hd_StonePlan_fallsNext rfl ⟨(Nat.le_of_ble_eq_true rfl), (Nat.le_of_ble_eq_true rfl)⟩ ⟨(Nat.le_of_ble_eq_true rfl), (Nat.le_of_ble_eq_true rfl)⟩ (Nat.le_of_ble_eq_true rfl) rfl 158 rfl (by decide +kernel) [.int r45] rfl ?_
    refine v_if_eq C 165 161 rfl (by decide +kernel) (fun h46 => ?_) (fun h46 => ?_)
    · have hf := ite2_t hf h46
      refine v_iconst C (0) (0) (by decide) 166 rfl (by decide +kernel) ?_
      refine v_istore C 4 [(4, .int (0 : Int32)), (0, .ref (G.1 + a0)), (1, .ref (G.1 + a1)), (5, .int x5)] (by decide) rfl 168 rfl (by decide +kernel) ?_
      obtain ⟨z47, hz47, hf⟩ := bnd_e hf
      refine v_iinc C 5 (1) 3 z47 rfl (by rw [hz47]; rfl) [(5, .int z47), (4, .int (0 : Int32)), (0, .ref (G.1 + a0)), (1, .ref (G.1 + a1))] (by decide) rfl 171 rfl (by decide +kernel) ?_
      refine v_goto C 55 (by decide +kernel) ?_
      refine v_sub [2, 3, 1, 0] rfl ?_
      exact hkh55 σ44 a0 a1 (0 : Int32) z47 hk_a0 hk_a1 hf
    · have hf := ite2_f hf h46
      refine v_sub [0, 1, 3] rfl ?_
      exact t_StonePlan_heedSeconds_161 G l C hr hkh55 σ44 a0 a1 x5 hk_a0 hk_a1 hf
theorem t_StonePlan_heedSeconds_142 (G : ns_G) (l : Launch) {p : Program} {e : Env} {s : State} {m : MethodId} {args : Array Value} {below : List Frame} {meth : Method} {c : Code} (C : ns_Cx G p s m args meth c prog_6_method_8_code "NinthStep$StonePlan" 7) (hr : meth.sig.returnType = none) {r : Unit} {σ' : ns_St} {kh55 : ns_St → Nat → Nat → Int32 → Int32 → Option (Unit × ns_St)} (hkh55 : ∀ (σ : ns_St) (a0 : Nat) (a1 : Nat) (x4 : Int32) (x5 : Int32), ns_kd a0 = 4 → ns_kd a1 = 2 → kh55 σ a0 a1 x4 x5 = some (r, σ') → VV G p l e { frames := 4, cells := 0, slots := 0, locals := 91 } s m args below meth c 7 0 0 (MQ below (ns_Qc G none ns_N σ') args s 0 0 (ns_A G)) ns_N σ 55 [(0, .ref (G.1 + a0)), (1, .ref (G.1 + a1)), (4, .int x4), (5, .int x5)] []) (σ : ns_St) (s0 : Nat) (s1 : Int32) (s2 : Int64) (s3 : Int64) (a0 : Nat) (a1 : Nat) (x4 : Int32) (x5 : Int32) (hk_s0 : ns_kd s0 = 11) (hk_a0 : ns_kd a0 = 4) (hk_a1 : ns_kd a1 = 2) (hf : g_StonePlan_heedSeconds_142 kh55 σ s0 s1 s2 s3 a0 a1 x4 x5 = some (r, σ')) : VV G p l e { frames := 4, cells := 0, slots := 0, locals := 91 } s m args below meth c 7 0 0 (MQ below (ns_Qc G none ns_N σ') args s 0 0 (ns_A G)) ns_N σ 142 [(0, .ref (G.1 + a0)), (1, .ref (G.1 + a1)), (4, .int x4), (5, .int x5)] [.long s3, .long s2, .int s1, .ref (G.1 + s0)] := by
  unfold g_StonePlan_heedSeconds_142 at hf
  refine v_land C 143 rfl (by decide +kernel) ?_
  obtain ⟨hi48, hf⟩ := grd_e hf
  obtain ⟨σ49, hσ49, hf⟩ := bnd_e hf
  refine v_last C hσ49 (ns_kd_lt hk_s0 (by decide)) hk_s0 hi48 144 rfl (by decide +kernel) ?_
  exact t_StonePlan_heedSeconds_144 G l C hr hkh55 σ49 a0 a1 x4 x5 hk_a0 hk_a1 hf
theorem t_StonePlan_heedSeconds_115 (G : ns_G) (l : Launch) {p : Program} {e : Env} {s : State} {m : MethodId} {args : Array Value} {below : List Frame} {meth : Method} {c : Code} (C : ns_Cx G p s m args meth c prog_6_method_8_code "NinthStep$StonePlan" 7) (hr : meth.sig.returnType = none) {r : Unit} {σ' : ns_St} {kh55 : ns_St → Nat → Nat → Int32 → Int32 → Option (Unit × ns_St)} (hkh55 : ∀ (σ : ns_St) (a0 : Nat) (a1 : Nat) (x4 : Int32) (x5 : Int32), ns_kd a0 = 4 → ns_kd a1 = 2 → kh55 σ a0 a1 x4 x5 = some (r, σ') → VV G p l e { frames := 4, cells := 0, slots := 0, locals := 91 } s m args below meth c 7 0 0 (MQ below (ns_Qc G none ns_N σ') args s 0 0 (ns_A G)) ns_N σ 55 [(0, .ref (G.1 + a0)), (1, .ref (G.1 + a1)), (4, .int x4), (5, .int x5)] []) (σ : ns_St) (s0 : Int32) (a0 : Nat) (a1 : Nat) (x4 : Int32) (x5 : Int32) (hk_a0 : ns_kd a0 = 4) (hk_a1 : ns_kd a1 = 2) (hf : g_StonePlan_heedSeconds_115 kh55 σ s0 a0 a1 x4 x5 = some (r, σ')) : VV G p l e { frames := 4, cells := 0, slots := 0, locals := 91 } s m args below meth c 7 0 0 (MQ below (ns_Qc G none ns_N σ') args s 0 0 (ns_A G)) ns_N σ 115 [(0, .ref (G.1 + a0)), (1, .ref (G.1 + a1)), (4, .int x4), (5, .int x5)] [.int s0] := by
  unfold g_StonePlan_heedSeconds_115 at hf
  refine v_istore C 6 [(6, .int s0), (0, .ref (G.1 + a0)), (1, .ref (G.1 + a1)), (4, .int x4), (5, .int x5)] (by decide) rfl 117 rfl (by decide +kernel) ?_
  refine v_aload_n C 0 1 rfl 118 rfl (by decide +kernel) ?_
  obtain ⟨b50, hb50, hf⟩ := drf_e hf
  obtain ⟨hk_b50, hf⟩ := grd_e hf
  refine v_getR C 4 1 hb50 rfl nin_4 (ns_kd_lt hk_a0 (by decide)) hk_a0 (by decide) (by decide) rfl 15 tw_221 rfl 121 rfl (by decide +kernel) ?_
  refine v_iload C 5 4 rfl 123 rfl (by decide +kernel) ?_
  refine v_dup2_11 C rfl rfl 124 rfl (by decide +kernel) ?_
  obtain ⟨hi51, hf⟩ := grd_e hf
  refine v_lald C (ns_kd_lt hk_b50 (by decide)) hk_b50 hi51 125 rfl (by decide +kernel) ?_
  refine v_iload C 6 0 rfl 127 rfl (by decide +kernel) ?_
  refine v_if_eq C 141 130 rfl (by decide +kernel) (fun h52 => ?_) (fun h52 => ?_)
  · have hf := ite2_t hf h52
    refine v_lconst C 0 (0) (by decide) 142 rfl (by decide +kernel) ?_
    refine v_sub [1, 2, 3, 4] rfl ?_
    exact t_StonePlan_heedSeconds_142 G l C hr hkh55 σ b50 x5 (σ.2.1 b50 (ns_ix x5)) (0 : Int64) a0 a1 x4 x5 hk_b50 hk_a0 hk_a1 hf
  · have hf := ite2_f hf h52
    refine v_aload_n C 0 1 rfl 131 rfl (by decide +kernel) ?_
    refine v_aload_n C 0 1 rfl 132 rfl (by decide +kernel) ?_
    obtain ⟨b53, hb53, hf⟩ := drf_e hf
    obtain ⟨hk_b53, hf⟩ := grd_e hf
    refine v_getR C 4 4 hb53 rfl nin_4 (ns_kd_lt hk_a0 (by decide)) hk_a0 (by decide) (by decide) rfl 29 tw_224 rfl 135 rfl (by decide +kernel) ?_
    obtain ⟨r55, σ54, hcr55, hf⟩ := cl2_e hf
    refine v_cV C 4 rfl (ns_kd_lt hk_a0 (by decide)) hk_a0 (by decide) [.ref (G.1 + b53)] [.long (σ.2.1 b50 (ns_ix x5)), .int x5, .ref (G.1 + b50)] (c_StonePlan_helpersAhead G l σ a0 b53 hcr55) 117 1 tw_846 tw_843 tw_845 ts_59 tw_7 hd_StonePlan_helpersAhead rfl ⟨(Nat.le_of_ble_eq_true rfl), (Nat.le_of_ble_eq_true rfl)⟩ ⟨(Nat.le_of_ble_eq_true rfl), (Nat.le_of_ble_eq_true rfl)⟩ (Nat.le_of_ble_eq_true rfl) rfl 138 rfl (by decide +kernel) [.long r55, .long (σ.2.1 b50 (ns_ix x5)), .int x5, .ref (G.1 + b50)] rfl ?_
    refine v_goto C 142 (by decide +kernel) ?_
    refine v_sub [1, 2, 3, 4] rfl ?_
    exact t_StonePlan_heedSeconds_142 G l C hr hkh55 σ54 b50 x5 (σ.2.1 b50 (ns_ix x5)) r55 a0 a1 x4 x5 hk_b50 hk_a0 hk_a1 hf
theorem t_StonePlan_heedSeconds_114 (G : ns_G) (l : Launch) {p : Program} {e : Env} {s : State} {m : MethodId} {args : Array Value} {below : List Frame} {meth : Method} {c : Code} (C : ns_Cx G p s m args meth c prog_6_method_8_code "NinthStep$StonePlan" 7) (hr : meth.sig.returnType = none) {r : Unit} {σ' : ns_St} {kh55 : ns_St → Nat → Nat → Int32 → Int32 → Option (Unit × ns_St)} (hkh55 : ∀ (σ : ns_St) (a0 : Nat) (a1 : Nat) (x4 : Int32) (x5 : Int32), ns_kd a0 = 4 → ns_kd a1 = 2 → kh55 σ a0 a1 x4 x5 = some (r, σ') → VV G p l e { frames := 4, cells := 0, slots := 0, locals := 91 } s m args below meth c 7 0 0 (MQ below (ns_Qc G none ns_N σ') args s 0 0 (ns_A G)) ns_N σ 55 [(0, .ref (G.1 + a0)), (1, .ref (G.1 + a1)), (4, .int x4), (5, .int x5)] []) (σ : ns_St) (a0 : Nat) (a1 : Nat) (x4 : Int32) (x5 : Int32) (hk_a0 : ns_kd a0 = 4) (hk_a1 : ns_kd a1 = 2) (hf : g_StonePlan_heedSeconds_114 kh55 σ a0 a1 x4 x5 = some (r, σ')) : VV G p l e { frames := 4, cells := 0, slots := 0, locals := 91 } s m args below meth c 7 0 0 (MQ below (ns_Qc G none ns_N σ') args s 0 0 (ns_A G)) ns_N σ 114 [(0, .ref (G.1 + a0)), (1, .ref (G.1 + a1)), (4, .int x4), (5, .int x5)] [] := by
  unfold g_StonePlan_heedSeconds_114 at hf
  refine v_iconst C (0) (0) (by decide) 115 rfl (by decide +kernel) ?_
  exact t_StonePlan_heedSeconds_115 G l C hr hkh55 σ (0 : Int32) a0 a1 x4 x5 hk_a0 hk_a1 hf
theorem t_StonePlan_heedSeconds_55 (G : ns_G) (l : Launch) {p : Program} {e : Env} {s : State} {m : MethodId} {args : Array Value} {below : List Frame} {meth : Method} {c : Code} (C : ns_Cx G p s m args meth c prog_6_method_8_code "NinthStep$StonePlan" 7) (hr : meth.sig.returnType = none) {r : Unit} {σ' : ns_St}  : ∀ (f : Nat) (σ : ns_St) (a0 : Nat) (a1 : Nat) (x4 : Int32) (x5 : Int32) (hk_a0 : ns_kd a0 = 4) (hk_a1 : ns_kd a1 = 2), g_StonePlan_heedSeconds_55 f σ a0 a1 x4 x5 = some (r, σ') → VV G p l e { frames := 4, cells := 0, slots := 0, locals := 91 } s m args below meth c 7 0 0 (MQ below (ns_Qc G none ns_N σ') args s 0 0 (ns_A G)) ns_N σ 55 [(0, .ref (G.1 + a0)), (1, .ref (G.1 + a1)), (4, .int x4), (5, .int x5)] [] := by
  intro f
  induction f with
  | zero =>
    intro σ a0 a1 x4 x5 hk_a0 hk_a1 hf
    cases hf
  | succ f ih =>
    intro σ a0 a1 x4 x5 hk_a0 hk_a1 hf
    rw [g_StonePlan_heedSeconds_55] at hf
    refine v_iload C 5 3 rfl 57 rfl (by decide +kernel) ?_
    refine v_aload_n C 0 0 rfl 58 rfl (by decide +kernel) ?_
    obtain ⟨b56, hb56, hf⟩ := drf_e hf
    obtain ⟨hk_b56, hf⟩ := grd_e hf
    refine v_getR C 4 7 hb56 rfl nin_4 (ns_kd_lt hk_a0 (by decide)) hk_a0 (by decide) (by decide) rfl 44 tw_227 rfl 61 rfl (by decide +kernel) ?_
    refine v_getIN C 1 0 rfl nin_1 (ns_kd_lt hk_b56 (by decide)) hk_b56 (by decide) (by decide) rfl 87 tw_42 rfl 64 rfl (by decide +kernel) ?_
    refine v_icmp_gt C 174 67 rfl (by decide +kernel) (fun h57 => ?_) (fun h57 => ?_)
    · have hf := ite2_t hf h57
      cases hf
      exact v_vret C hr (by decide +kernel)
    · have hf := ite2_f hf h57
      refine v_aload_n C 0 0 rfl 68 rfl (by decide +kernel) ?_
      obtain ⟨b58, hb58, hf⟩ := drf_e hf
      obtain ⟨hk_b58, hf⟩ := grd_e hf
      refine v_getR C 4 1 hb58 rfl nin_4 (ns_kd_lt hk_a0 (by decide)) hk_a0 (by decide) (by decide) rfl 15 tw_221 rfl 71 rfl (by decide +kernel) ?_
      refine v_iload C 5 3 rfl 73 rfl (by decide +kernel) ?_
      obtain ⟨hi59, hf⟩ := grd_e hf
      refine v_lald C (ns_kd_lt hk_b58 (by decide)) hk_b58 hi59 74 rfl (by decide +kernel) ?_
      refine v_lconst C 0 (0) (by decide) 75 rfl (by decide +kernel) ?_
      refine v_lcmp C 76 rfl (by decide +kernel) ?_
      refine v_if_eq C 144 79 rfl (by decide +kernel) (fun h60 => ?_) (fun h60 => ?_)
      · have hf := ite2_t hf h60
        exact t_StonePlan_heedSeconds_144 G l C hr ih σ a0 a1 x4 x5 hk_a0 hk_a1 hf
      · have hf := ite2_f hf h60
        refine v_aload_n C 0 0 rfl 80 rfl (by decide +kernel) ?_
        obtain ⟨b61, hb61, hf⟩ := drf_e hf
        obtain ⟨hk_b61, hf⟩ := grd_e hf
        refine v_getR C 4 4 hb61 rfl nin_4 (ns_kd_lt hk_a0 (by decide)) hk_a0 (by decide) (by decide) rfl 29 tw_224 rfl 83 rfl (by decide +kernel) ?_
        refine v_aload_n C 0 0 rfl 84 rfl (by decide +kernel) ?_
        obtain ⟨b62, hb62, hf⟩ := drf_e hf
        obtain ⟨hk_b62, hf⟩ := grd_e hf
        refine v_getR C 4 3 hb62 rfl nin_4 (ns_kd_lt hk_a0 (by decide)) hk_a0 (by decide) (by decide) rfl 25 tw_223 rfl 87 rfl (by decide +kernel) ?_
        obtain ⟨r64, σ63, hcr64, hf⟩ := cl2_e hf
        refine v_cVN C 2 rfl (ns_kd_lt hk_b61 (by decide)) hk_b61 (by decide) [.ref (G.1 + b62)] [] (c_Mule_takeFrom G l σ b61 b62 hcr64) 103 1 tw_522 tw_809 tw_521 ts_19 tw_4 hd_Mule_takeFrom rfl ⟨(Nat.le_of_ble_eq_true rfl), (Nat.le_of_ble_eq_true rfl)⟩ ⟨(Nat.le_of_ble_eq_true rfl), (Nat.le_of_ble_eq_true rfl)⟩ (Nat.le_of_ble_eq_true rfl) rfl 90 rfl (by decide +kernel) [] rfl ?_
        refine v_iload C 4 2 rfl 92 rfl (by decide +kernel) ?_
        refine v_if_ne C 114 95 rfl (by decide +kernel) (fun h65 => ?_) (fun h65 => ?_)
        · have hf := ite2_f hf h65
          exact t_StonePlan_heedSeconds_114 G l C hr ih σ63 a0 a1 x4 x5 hk_a0 hk_a1 hf
        · have hf := ite2_t hf h65
          refine v_aload_n C 0 0 rfl 96 rfl (by decide +kernel) ?_
          refine v_aload_n C 0 0 rfl 97 rfl (by decide +kernel) ?_
          obtain ⟨b66, hb66, hf⟩ := drf_e hf
          obtain ⟨hk_b66, hf⟩ := grd_e hf
          refine v_getR C 4 4 hb66 rfl nin_4 (ns_kd_lt hk_a0 (by decide)) hk_a0 (by decide) (by decide) rfl 29 tw_224 rfl 100 rfl (by decide +kernel) ?_
          refine v_aload_n C 1 1 rfl 101 rfl (by decide +kernel) ?_
          refine v_getIN C 2 7 rfl nin_2 (ns_kd_lt hk_a1 (by decide)) hk_a1 (by decide) (by decide) rfl 123 tw_107 rfl 104 rfl (by decide +kernel) ?_
          obtain ⟨r68, σ67, hcr68, hf⟩ := cl2_e hf
          refine v_cV C 4 rfl (ns_kd_lt hk_a0 (by decide)) hk_a0 (by decide) [.ref (G.1 + b66), .int (σ63.1 a1 7)] [] (c_StonePlan_fallsNext G l σ63 a0 b66 (σ63.1 a1 7) hcr68) 110 2 tw_813 tw_810 tw_812 ts_53 tw_7 hd_StonePlan_fallsNext rfl ⟨(Nat.le_of_ble_eq_true rfl), (Nat.le_of_ble_eq_true rfl)⟩ ⟨(Nat.le_of_ble_eq_true rfl), (Nat.le_of_ble_eq_true rfl)⟩ (Nat.le_of_ble_eq_true rfl) rfl 107 rfl (by decide +kernel) [.int r68] rfl ?_
          refine v_if_ne C 114 110 rfl (by decide +kernel) (fun h69 => ?_) (fun h69 => ?_)
          · have hf := ite2_f hf h69
            exact t_StonePlan_heedSeconds_114 G l C hr ih σ67 a0 a1 x4 x5 hk_a0 hk_a1 hf
          · have hf := ite2_t hf h69
            refine v_iconst C (1) (1) (by decide) 111 rfl (by decide +kernel) ?_
            refine v_goto C 115 (by decide +kernel) ?_
            exact t_StonePlan_heedSeconds_115 G l C hr ih σ67 (1 : Int32) a0 a1 x4 x5 hk_a0 hk_a1 hf
theorem t_StonePlan_heedSeconds_36 (G : ns_G) (l : Launch) {p : Program} {e : Env} {s : State} {m : MethodId} {args : Array Value} {below : List Frame} {meth : Method} {c : Code} (C : ns_Cx G p s m args meth c prog_6_method_8_code "NinthStep$StonePlan" 7) (hr : meth.sig.returnType = none) {r : Unit} {σ' : ns_St}  (σ : ns_St) (a0 : Nat) (a1 : Nat) (hk_a0 : ns_kd a0 = 4) (hk_a1 : ns_kd a1 = 2) (hf : g_StonePlan_heedSeconds_36 σ a0 a1 = some (r, σ')) : VV G p l e { frames := 4, cells := 0, slots := 0, locals := 91 } s m args below meth c 7 0 0 (MQ below (ns_Qc G none ns_N σ') args s 0 0 (ns_A G)) ns_N σ 36 [(0, .ref (G.1 + a0)), (1, .ref (G.1 + a1))] [] := by
  unfold g_StonePlan_heedSeconds_36 at hf
  refine v_aload_n C 0 0 rfl 37 rfl (by decide +kernel) ?_
  obtain ⟨b70, hb70, hf⟩ := drf_e hf
  obtain ⟨hk_b70, hf⟩ := grd_e hf
  refine v_getR C 4 3 hb70 rfl nin_4 (ns_kd_lt hk_a0 (by decide)) hk_a0 (by decide) (by decide) rfl 25 tw_223 rfl 40 rfl (by decide +kernel) ?_
  refine v_aload_n C 1 1 rfl 41 rfl (by decide +kernel) ?_
  obtain ⟨r72, σ71, hcr72, hf⟩ := cl2_e hf
  refine v_cVN C 2 rfl (ns_kd_lt hk_b70 (by decide)) hk_b70 (by decide) [.ref (G.1 + a1)] [] (c_Mule_takeFrom G l σ b70 a1 hcr72) 103 1 tw_522 tw_809 tw_521 ts_19 tw_4 hd_Mule_takeFrom rfl ⟨(Nat.le_of_ble_eq_true rfl), (Nat.le_of_ble_eq_true rfl)⟩ ⟨(Nat.le_of_ble_eq_true rfl), (Nat.le_of_ble_eq_true rfl)⟩ (Nat.le_of_ble_eq_true rfl) rfl 44 rfl (by decide +kernel) [] rfl ?_
  refine v_iconst C (0) (0) (by decide) 45 rfl (by decide +kernel) ?_
  refine v_istore C 4 [(4, .int (0 : Int32)), (0, .ref (G.1 + a0)), (1, .ref (G.1 + a1))] (by decide) rfl 47 rfl (by decide +kernel) ?_
  refine v_aload_n C 1 2 rfl 48 rfl (by decide +kernel) ?_
  refine v_getIN C 2 2 rfl nin_2 (ns_kd_lt hk_a1 (by decide)) hk_a1 (by decide) (by decide) rfl 107 tw_90 rfl 51 rfl (by decide +kernel) ?_
  refine v_iconst C (1) (1) (by decide) 52 rfl (by decide +kernel) ?_
  refine v_iadd C 53 rfl (by decide +kernel) ?_
  obtain ⟨z73, hz73, hf⟩ := bnd_e hf
  refine v_nmI hz73 ?_
  refine v_istore C 5 [(5, .int z73), (4, .int (0 : Int32)), (0, .ref (G.1 + a0)), (1, .ref (G.1 + a1))] (by decide) rfl 55 rfl (by decide +kernel) ?_
  refine v_sub [2, 3, 1, 0] rfl ?_
  exact t_StonePlan_heedSeconds_55 G l C hr  ns_F σ71 a0 a1 (0 : Int32) z73 hk_a0 hk_a1 hf
theorem t_StonePlan_heedSeconds_3 (G : ns_G) (l : Launch) {p : Program} {e : Env} {s : State} {m : MethodId} {args : Array Value} {below : List Frame} {meth : Method} {c : Code} (C : ns_Cx G p s m args meth c prog_6_method_8_code "NinthStep$StonePlan" 7) (hr : meth.sig.returnType = none) {r : Unit} {σ' : ns_St}  : ∀ (f : Nat) (σ : ns_St) (a0 : Nat) (a1 : Nat) (x2 : Int64) (x4 : Int32) (hk_a0 : ns_kd a0 = 4) (hk_a1 : ns_kd a1 = 2), g_StonePlan_heedSeconds_3 f σ a0 a1 x2 x4 = some (r, σ') → VV G p l e { frames := 4, cells := 0, slots := 0, locals := 91 } s m args below meth c 7 0 0 (MQ below (ns_Qc G none ns_N σ') args s 0 0 (ns_A G)) ns_N σ 3 [(0, .ref (G.1 + a0)), (1, .ref (G.1 + a1)), (2, .long x2), (4, .int x4)] [] := by
  intro f
  induction f with
  | zero =>
    intro σ a0 a1 x2 x4 hk_a0 hk_a1 hf
    cases hf
  | succ f ih =>
    intro σ a0 a1 x2 x4 hk_a0 hk_a1 hf
    rw [g_StonePlan_heedSeconds_3] at hf
    refine v_iload C 4 3 rfl 5 rfl (by decide +kernel) ?_
    refine v_aload_n C 1 1 rfl 6 rfl (by decide +kernel) ?_
    refine v_getIN C 2 2 rfl nin_2 (ns_kd_lt hk_a1 (by decide)) hk_a1 (by decide) (by decide) rfl 107 tw_90 rfl 9 rfl (by decide +kernel) ?_
    refine v_icmp_gt C 36 12 rfl (by decide +kernel) (fun h74 => ?_) (fun h74 => ?_)
    · have hf := ite2_t hf h74
      refine v_sub [0, 1] rfl ?_
      exact t_StonePlan_heedSeconds_36 G l C hr  σ a0 a1 hk_a0 hk_a1 hf
    · have hf := ite2_f hf h74
      refine v_iload C 4 3 rfl 14 rfl (by decide +kernel) ?_
      refine v_bipush C (61) (61) (by decide) 16 rfl (by decide +kernel) ?_
      refine v_icmp_ge C 36 19 rfl (by decide +kernel) (fun h75 => ?_) (fun h75 => ?_)
      · have hf := ite2_t hf h75
        refine v_sub [0, 1] rfl ?_
        exact t_StonePlan_heedSeconds_36 G l C hr  σ a0 a1 hk_a0 hk_a1 hf
      · have hf := ite2_f hf h75
        refine v_aload_n C 0 0 rfl 20 rfl (by decide +kernel) ?_
        obtain ⟨b76, hb76, hf⟩ := drf_e hf
        obtain ⟨hk_b76, hf⟩ := grd_e hf
        refine v_getR C 4 1 hb76 rfl nin_4 (ns_kd_lt hk_a0 (by decide)) hk_a0 (by decide) (by decide) rfl 15 tw_221 rfl 23 rfl (by decide +kernel) ?_
        refine v_iload C 4 3 rfl 25 rfl (by decide +kernel) ?_
        refine v_dup2_11 C rfl rfl 26 rfl (by decide +kernel) ?_
        obtain ⟨hi77, hf⟩ := grd_e hf
        refine v_lald C (ns_kd_lt hk_b76 (by decide)) hk_b76 hi77 27 rfl (by decide +kernel) ?_
        refine v_lload_n C 2 2 rfl 28 rfl (by decide +kernel) ?_
        refine v_land C 29 rfl (by decide +kernel) ?_
        obtain ⟨hi78, hf⟩ := grd_e hf
        obtain ⟨σ79, hσ79, hf⟩ := bnd_e hf
        refine v_last C hσ79 (ns_kd_lt hk_b76 (by decide)) hk_b76 hi78 30 rfl (by decide +kernel) ?_
        obtain ⟨z80, hz80, hf⟩ := bnd_e hf
        refine v_iinc C 4 (1) 3 z80 rfl (by rw [hz80]; rfl) [(4, .int z80), (0, .ref (G.1 + a0)), (1, .ref (G.1 + a1)), (2, .long x2)] (by decide) rfl 33 rfl (by decide +kernel) ?_
        refine v_goto C 3 (by decide +kernel) ?_
        refine v_sub [1, 2, 3, 0] rfl ?_
        exact ih σ79 a0 a1 x2 z80 hk_a0 hk_a1 hf
theorem c_StonePlan_heedSeconds (G : ns_G) (l : Launch) (σ : ns_St) (a0 : Nat) (a1 : Nat) (x2 : Int64) {r : Unit} {σ' : ns_St} (hf : g_StonePlan_heedSeconds σ a0 a1 x2 = some (r, σ')) : ns_ok G l ⟨"NinthStep$StonePlan", "heedSeconds", "(LNinthStep$Mule;J)V"⟩ prog_6_method_8_code 7 none 4 91 0 0 [.ref (G.1 + a0), .ref (G.1 + a1), .long x2] ns_N σ none ns_N σ' := by
  refine v_open (by decide) (Nat.le_of_ble_eq_true rfl) rfl ?_
  intro p e s m below meth c C hr _
  have C : ns_Cx G p s m _ meth c prog_6_method_8_code "NinthStep$StonePlan" 7 := C
  unfold g_StonePlan_heedSeconds at hf
  obtain ⟨hk_a0, hf⟩ := grd_e hf
  obtain ⟨hk_a1, hf⟩ := grd_e hf
  refine v_iconst C (0) (0) (by decide) 1 rfl (by decide +kernel) ?_
  refine v_istore C 4 [(4, .int (0 : Int32)), (0, .ref (G.1 + a0)), (1, .ref (G.1 + a1)), (2, .long x2)] (by decide) rfl 3 rfl (by decide +kernel) ?_
  refine v_sub [1, 2, 3, 0] rfl ?_
  exact t_StonePlan_heedSeconds_3 G l C hr  ns_F σ a0 a1 x2 (0 : Int32) hk_a0 hk_a1 hf
theorem hd_StonePlan_heedSeconds : (⟨"NinthStep$StonePlan", "heedSeconds", "(LNinthStep$Mule;J)V"⟩ : MethodName).cls = "NinthStep$StonePlan" ∧ (⟨"NinthStep$StonePlan", "heedSeconds", "(LNinthStep$Mule;J)V"⟩ : MethodName).cls ≠ "java/lang/invoke/MethodHandle" ∧ (⟨"NinthStep$StonePlan", "heedSeconds", "(LNinthStep$Mule;J)V"⟩ : MethodName).cls ≠ "java/lang/invoke/VarHandle" ∧ (parseMethodDescriptor (⟨"NinthStep$StonePlan", "heedSeconds", "(LNinthStep$Mule;J)V"⟩ : MethodName).desc).map (fun d => d.parameters.length) = some 2 := by decide +kernel
def g_StonePlan_isPairEnough_99  : Nat → ns_St → Nat → Int32 → Option (Int32 × ns_St)
  | 0, _, _, _ => none
  | f + 1, σ, a0, x4 => ite2 ((61 : Int32) ≤ x4) (some ((0 : Int32), σ)) (drf (σ.2.2 a0 1) fun b42 => grd (ns_kd b42 = 11) <| grd (ns_in x4 (ns_ln b42)) <| ite2 ((lg_cmp (σ.2.1 b42 (ns_ix x4)) (0 : Int64)) = 0) (bnd (x4 + 1) fun z45 => (g_StonePlan_isPairEnough_99 f) σ a0 z45) (bnd (ns_pI σ a0 8 x4) fun σ46 => drf (σ46.2.2 a0 1) fun b47 => grd (ns_kd b47 = 11) <| grd (ns_in x4 (ns_ln b47)) <| cl2 (g_N_firstOf σ46 (σ46.2.1 b47 (ns_ix x4))) fun r50 σ49 => bnd (ns_pI σ49 a0 9 r50) fun σ51 => some ((1 : Int32), σ51)))
def g_StonePlan_isPairEnough_59  : Nat → ns_St → Nat → Nat → Int32 → Option (Int32 × ns_St)
  | 0, _, _, _, _ => none
  | f + 1, σ, a0, a1, x4 => ite2 ((σ.1 a1 2) ≤ x4) (g_StonePlan_isPairEnough_99 ns_F σ a0 (0 : Int32)) (drf (σ.2.2 a1 1) fun b53 => grd (ns_kd b53 = 12) <| grd (ns_in x4 (ns_ln b53)) <| drf (σ.2.2 b53 (ns_ix x4)) fun b55 => grd (ns_kd b55 = 2) <| drf (σ.2.2 a1 1) fun b56 => grd (ns_kd b56 = 12) <| grd (ns_in x4 (ns_ln b56)) <| drf (σ.2.2 b56 (ns_ix x4)) fun b58 => grd (ns_kd b58 = 2) <| cl2 (g_StonePlan_helpersFor σ a0 b58) fun r60 σ59 => cl2 (g_StonePlan_heedSeconds σ59 a0 b55 r60) fun r62 σ61 => bnd (x4 + 1) fun z63 => (g_StonePlan_isPairEnough_59 f) σ61 a0 a1 z63)
def g_StonePlan_isPairEnough_16  : Nat → ns_St → Nat → Nat → Int64 → Int32 → Option (Int32 × ns_St)
  | 0, _, _, _, _, _ => none
  | f + 1, σ, a0, a1, x2, x4 => ite2 ((61 : Int32) ≤ x4) (g_StonePlan_isPairEnough_59 ns_F σ a0 a1 (0 : Int32)) (drf (σ.2.2 a0 1) fun b65 => grd (ns_kd b65 = 11) <| cl2 (g_N_isIn σ x2 x4) fun r67 σ66 => ite2 (r67 = 0) (grd (ns_in x4 (ns_ln b65)) <| bnd (ns_pJ σ66 b65 (ns_ix x4) (0 : Int64)) fun σ70 => bnd (x4 + 1) fun z71 => (g_StonePlan_isPairEnough_16 f) σ70 a0 a1 x2 z71) (cl2 (g_N_above σ66 x4) fun r73 σ72 => grd (ns_in x4 (ns_ln b65)) <| bnd (ns_pJ σ72 b65 (ns_ix x4) (x2 &&& r73)) fun σ75 => bnd (x4 + 1) fun z76 => (g_StonePlan_isPairEnough_16 f) σ75 a0 a1 x2 z76))
def g_StonePlan_isPairEnough (σ : ns_St) (a0 : Nat) (a1 : Nat) : Option (Int32 × ns_St) := grd (ns_kd a0 = 4) <| grd (ns_kd a1 = 7) <| drf (σ.2.2 a1 0) fun b77 => grd (ns_kd b77 = 1) <| bnd (ns_pR σ a0 7 (some b77)) fun σ78 => cl2 (g_StonePlan_freePlaces σ78 a0) fun r80 σ79 => g_StonePlan_isPairEnough_16 ns_F σ79 a0 a1 r80 (0 : Int32)
theorem t_StonePlan_isPairEnough_99 (G : ns_G) (l : Launch) {p : Program} {e : Env} {s : State} {m : MethodId} {args : Array Value} {below : List Frame} {meth : Method} {c : Code} (C : ns_Cx G p s m args meth c prog_6_method_4_code "NinthStep$StonePlan" 5) (hr : meth.sig.returnType = (some .boolean)) {r : Int32} {σ' : ns_St}  : ∀ (f : Nat) (σ : ns_St) (a0 : Nat) (x4 : Int32) (hk_a0 : ns_kd a0 = 4), g_StonePlan_isPairEnough_99 f σ a0 x4 = some (r, σ') → VV G p l e { frames := 5, cells := 0, slots := 0, locals := 117 } s m args below meth c 5 0 0 (MQ below (ns_Qc G (some (.int r)) ns_N σ') args s 0 0 (ns_A G)) ns_N σ 99 [(0, .ref (G.1 + a0)), (4, .int x4)] [] := by
  intro f
  induction f with
  | zero =>
    intro σ a0 x4 hk_a0 hf
    cases hf
  | succ f ih =>
    intro σ a0 x4 hk_a0 hf
    rw [g_StonePlan_isPairEnough_99] at hf
    refine v_iload C 4 1 rfl 101 rfl (by decide +kernel) ?_
    refine v_bipush C (61) (61) (by decide) 103 rfl (by decide +kernel) ?_
    refine v_icmp_ge C 146 106 rfl (by decide +kernel) (fun h41 => ?_) (fun h41 => ?_)
    · have hf := ite2_t hf h41
      refine v_iconst C (0) (0) (by decide) 147 rfl (by decide +kernel) ?_
      cases hf
      exact v_zret C hr rfl (by decide +kernel)
    · have hf := ite2_f hf h41
      refine v_aload_n C 0 0 rfl 107 rfl (by decide +kernel) ?_
      obtain ⟨b42, hb42, hf⟩ := drf_e hf
      obtain ⟨hk_b42, hf⟩ := grd_e hf
      refine v_getR C 4 1 hb42 rfl nin_4 (ns_kd_lt hk_a0 (by decide)) hk_a0 (by decide) (by decide) rfl 15 tw_221 rfl 110 rfl (by decide +kernel) ?_
      refine v_iload C 4 1 rfl 112 rfl (by decide +kernel) ?_
      obtain ⟨hi43, hf⟩ := grd_e hf
      refine v_lald C (ns_kd_lt hk_b42 (by decide)) hk_b42 hi43 113 rfl (by decide +kernel) ?_
      refine v_lconst C 0 (0) (by decide) 114 rfl (by decide +kernel) ?_
      refine v_lcmp C 115 rfl (by decide +kernel) ?_
      refine v_if_eq C 140 118 rfl (by decide +kernel) (fun h44 => ?_) (fun h44 => ?_)
      · have hf := ite2_t hf h44
        obtain ⟨z45, hz45, hf⟩ := bnd_e hf
        refine v_iinc C 4 (1) 1 z45 rfl (by rw [hz45]; rfl) [(4, .int z45), (0, .ref (G.1 + a0))] (by decide) rfl 143 rfl (by decide +kernel) ?_
        refine v_goto C 99 (by decide +kernel) ?_
        refine v_sub [1, 0] rfl ?_
        exact ih σ a0 z45 hk_a0 hf
      · have hf := ite2_f hf h44
        refine v_aload_n C 0 0 rfl 119 rfl (by decide +kernel) ?_
        refine v_iload C 4 1 rfl 121 rfl (by decide +kernel) ?_
        obtain ⟨σ46, hσ46, hf⟩ := bnd_e hf
        refine v_putI C 4 8 hσ46 rfl nin_4 ny_4 nty_4 nnm_4 (ns_kd_lt hk_a0 (by decide)) hk_a0 (by decide) (by decide) rfl rfl rfl rfl 69 tw_228 rfl 124 rfl (by decide +kernel) ?_
        refine v_aload_n C 0 0 rfl 125 rfl (by decide +kernel) ?_
        refine v_aload_n C 0 0 rfl 126 rfl (by decide +kernel) ?_
        obtain ⟨b47, hb47, hf⟩ := drf_e hf
        obtain ⟨hk_b47, hf⟩ := grd_e hf
        refine v_getR C 4 1 hb47 rfl nin_4 (ns_kd_lt hk_a0 (by decide)) hk_a0 (by decide) (by decide) rfl 15 tw_221 rfl 129 rfl (by decide +kernel) ?_
        refine v_iload C 4 1 rfl 131 rfl (by decide +kernel) ?_
        obtain ⟨hi48, hf⟩ := grd_e hf
        refine v_lald C (ns_kd_lt hk_b47 (by decide)) hk_b47 hi48 132 rfl (by decide +kernel) ?_
        obtain ⟨r50, σ49, hcr50, hf⟩ := cl2_e hf
        refine v_cSN C [.long (σ46.2.1 b47 (ns_ix x4))] [.ref (G.1 + a0)] (c_N_firstOf G l σ46 (σ46.2.1 b47 (ns_ix x4)) hcr50) 65 1 tw_416 tw_848 tw_415 tw_1 hd_N_firstOf rfl ⟨(Nat.le_of_ble_eq_true rfl), (Nat.le_of_ble_eq_true rfl)⟩ ⟨(Nat.le_of_ble_eq_true rfl), (Nat.le_of_ble_eq_true rfl)⟩ (Nat.le_of_ble_eq_true rfl) rfl 135 rfl (by decide +kernel) [.int r50, .ref (G.1 + a0)] rfl ?_
        obtain ⟨σ51, hσ51, hf⟩ := bnd_e hf
        refine v_putI C 4 9 hσ51 rfl nin_4 ny_4 nty_4 nnm_4 (ns_kd_lt hk_a0 (by decide)) hk_a0 (by decide) (by decide) rfl rfl rfl rfl 84 tw_230 rfl 138 rfl (by decide +kernel) ?_
        refine v_iconst C (1) (1) (by decide) 139 rfl (by decide +kernel) ?_
        cases hf
        exact v_zret C hr rfl (by decide +kernel)
theorem t_StonePlan_isPairEnough_59 (G : ns_G) (l : Launch) {p : Program} {e : Env} {s : State} {m : MethodId} {args : Array Value} {below : List Frame} {meth : Method} {c : Code} (C : ns_Cx G p s m args meth c prog_6_method_4_code "NinthStep$StonePlan" 5) (hr : meth.sig.returnType = (some .boolean)) {r : Int32} {σ' : ns_St}  : ∀ (f : Nat) (σ : ns_St) (a0 : Nat) (a1 : Nat) (x4 : Int32) (hk_a0 : ns_kd a0 = 4) (hk_a1 : ns_kd a1 = 7), g_StonePlan_isPairEnough_59 f σ a0 a1 x4 = some (r, σ') → VV G p l e { frames := 5, cells := 0, slots := 0, locals := 117 } s m args below meth c 5 0 0 (MQ below (ns_Qc G (some (.int r)) ns_N σ') args s 0 0 (ns_A G)) ns_N σ 59 [(0, .ref (G.1 + a0)), (1, .ref (G.1 + a1)), (4, .int x4)] [] := by
  intro f
  induction f with
  | zero =>
    intro σ a0 a1 x4 hk_a0 hk_a1 hf
    cases hf
  | succ f ih =>
    intro σ a0 a1 x4 hk_a0 hk_a1 hf
    rw [g_StonePlan_isPairEnough_59] at hf
    refine v_iload C 4 2 rfl 61 rfl (by decide +kernel) ?_
    refine v_aload_n C 1 1 rfl 62 rfl (by decide +kernel) ?_
    refine v_getIN C 7 2 rfl nin_7 (ns_kd_lt hk_a1 (by decide)) hk_a1 (by decide) (by decide) rfl 45 tw_132 rfl 65 rfl (by decide +kernel) ?_
    refine v_icmp_ge C 96 68 rfl (by decide +kernel) (fun h52 => ?_) (fun h52 => ?_)
    · have hf := ite2_t hf h52
      refine v_iconst C (0) (0) (by decide) 97 rfl (by decide +kernel) ?_
      refine v_istore C 4 [(4, .int (0 : Int32)), (0, .ref (G.1 + a0)), (1, .ref (G.1 + a1))] (by decide) rfl 99 rfl (by decide +kernel) ?_
      refine v_sub [1, 0] rfl ?_
      exact t_StonePlan_isPairEnough_99 G l C hr  ns_F σ a0 (0 : Int32) hk_a0 hf
    · have hf := ite2_f hf h52
      refine v_aload_n C 0 0 rfl 69 rfl (by decide +kernel) ?_
      refine v_aload_n C 1 1 rfl 70 rfl (by decide +kernel) ?_
      obtain ⟨b53, hb53, hf⟩ := drf_e hf
      obtain ⟨hk_b53, hf⟩ := grd_e hf
      refine v_getRN C 7 1 hb53 rfl nin_7 (ns_kd_lt hk_a1 (by decide)) hk_a1 (by decide) (by decide) rfl 49 tw_130 rfl 73 rfl (by decide +kernel) ?_
      refine v_iload C 4 2 rfl 75 rfl (by decide +kernel) ?_
      obtain ⟨hi54, hf⟩ := grd_e hf
      obtain ⟨b55, hb55, hf⟩ := drf_e hf
      obtain ⟨hk_b55, hf⟩ := grd_e hf
      refine v_aald C 12 (by decide) (ns_kd_lt hk_b53 (by decide)) hk_b53 hi54 hb55 76 rfl (by decide +kernel) ?_
      refine v_aload_n C 0 0 rfl 77 rfl (by decide +kernel) ?_
      refine v_aload_n C 1 1 rfl 78 rfl (by decide +kernel) ?_
      obtain ⟨b56, hb56, hf⟩ := drf_e hf
      obtain ⟨hk_b56, hf⟩ := grd_e hf
      refine v_getRN C 7 1 hb56 rfl nin_7 (ns_kd_lt hk_a1 (by decide)) hk_a1 (by decide) (by decide) rfl 49 tw_130 rfl 81 rfl (by decide +kernel) ?_
      refine v_iload C 4 2 rfl 83 rfl (by decide +kernel) ?_
      obtain ⟨hi57, hf⟩ := grd_e hf
      obtain ⟨b58, hb58, hf⟩ := drf_e hf
      obtain ⟨hk_b58, hf⟩ := grd_e hf
      refine v_aald C 12 (by decide) (ns_kd_lt hk_b56 (by decide)) hk_b56 hi57 hb58 84 rfl (by decide +kernel) ?_
      obtain ⟨r60, σ59, hcr60, hf⟩ := cl2_e hf
      refine v_cV C 4 rfl (ns_kd_lt hk_a0 (by decide)) hk_a0 (by decide) [.ref (G.1 + b58)] [.ref (G.1 + b55), .ref (G.1 + a0)] (c_StonePlan_helpersFor G l σ a0 b58 hcr60) 61 1 tw_830 tw_827 tw_829 ts_56 tw_7 hd_StonePlan_helpersFor rfl ⟨(Nat.le_of_ble_eq_true rfl), (Nat.le_of_ble_eq_true rfl)⟩ ⟨(Nat.le_of_ble_eq_true rfl), (Nat.le_of_ble_eq_true rfl)⟩ (Nat.le_of_ble_eq_true rfl) rfl 87 rfl (by decide +kernel) [.long r60, .ref (G.1 + b55), .ref (G.1 + a0)] rfl ?_
      obtain ⟨r62, σ61, hcr62, hf⟩ := cl2_e hf
      refine v_cV C 4 rfl (ns_kd_lt hk_a0 (by decide)) hk_a0 (by decide) [.ref (G.1 + b55), .long r60] [] (c_StonePlan_heedSeconds G l σ59 a0 b55 r60 hcr62) 80 2 tw_856 tw_853 tw_855 ts_61 tw_7 hd_StonePlan_heedSeconds rfl ⟨(Nat.le_of_ble_eq_true rfl), (Nat.le_of_ble_eq_true rfl)⟩ ⟨(Nat.le_of_ble_eq_true rfl), (Nat.le_of_ble_eq_true rfl)⟩ (Nat.le_of_ble_eq_true rfl) rfl 90 rfl (by decide +kernel) [] rfl ?_
      obtain ⟨z63, hz63, hf⟩ := bnd_e hf
      refine v_iinc C 4 (1) 2 z63 rfl (by rw [hz63]; rfl) [(4, .int z63), (0, .ref (G.1 + a0)), (1, .ref (G.1 + a1))] (by decide) rfl 93 rfl (by decide +kernel) ?_
      refine v_goto C 59 (by decide +kernel) ?_
      refine v_sub [1, 2, 0] rfl ?_
      exact ih σ61 a0 a1 z63 hk_a0 hk_a1 hf
theorem t_StonePlan_isPairEnough_16 (G : ns_G) (l : Launch) {p : Program} {e : Env} {s : State} {m : MethodId} {args : Array Value} {below : List Frame} {meth : Method} {c : Code} (C : ns_Cx G p s m args meth c prog_6_method_4_code "NinthStep$StonePlan" 5) (hr : meth.sig.returnType = (some .boolean)) {r : Int32} {σ' : ns_St}  : ∀ (f : Nat) (σ : ns_St) (a0 : Nat) (a1 : Nat) (x2 : Int64) (x4 : Int32) (hk_a0 : ns_kd a0 = 4) (hk_a1 : ns_kd a1 = 7), g_StonePlan_isPairEnough_16 f σ a0 a1 x2 x4 = some (r, σ') → VV G p l e { frames := 5, cells := 0, slots := 0, locals := 117 } s m args below meth c 5 0 0 (MQ below (ns_Qc G (some (.int r)) ns_N σ') args s 0 0 (ns_A G)) ns_N σ 16 [(0, .ref (G.1 + a0)), (1, .ref (G.1 + a1)), (2, .long x2), (4, .int x4)] [] := by
  intro f
  induction f with
  | zero =>
    intro σ a0 a1 x2 x4 hk_a0 hk_a1 hf
    cases hf
  | succ f ih =>
    intro σ a0 a1 x2 x4 hk_a0 hk_a1 hf
    rw [g_StonePlan_isPairEnough_16] at hf
    refine v_iload C 4 3 rfl 18 rfl (by decide +kernel) ?_
    refine v_bipush C (61) (61) (by decide) 20 rfl (by decide +kernel) ?_
    refine v_icmp_ge C 56 23 rfl (by decide +kernel) (fun h64 => ?_) (fun h64 => ?_)
    · have hf := ite2_t hf h64
      refine v_iconst C (0) (0) (by decide) 57 rfl (by decide +kernel) ?_
      refine v_istore C 4 [(4, .int (0 : Int32)), (0, .ref (G.1 + a0)), (1, .ref (G.1 + a1)), (2, .long x2)] (by decide) rfl 59 rfl (by decide +kernel) ?_
      refine v_sub [1, 2, 0] rfl ?_
      exact t_StonePlan_isPairEnough_59 G l C hr  ns_F σ a0 a1 (0 : Int32) hk_a0 hk_a1 hf
    · have hf := ite2_f hf h64
      refine v_aload_n C 0 0 rfl 24 rfl (by decide +kernel) ?_
      obtain ⟨b65, hb65, hf⟩ := drf_e hf
      obtain ⟨hk_b65, hf⟩ := grd_e hf
      refine v_getR C 4 1 hb65 rfl nin_4 (ns_kd_lt hk_a0 (by decide)) hk_a0 (by decide) (by decide) rfl 15 tw_221 rfl 27 rfl (by decide +kernel) ?_
      refine v_iload C 4 3 rfl 29 rfl (by decide +kernel) ?_
      refine v_lload_n C 2 2 rfl 30 rfl (by decide +kernel) ?_
      refine v_iload C 4 3 rfl 32 rfl (by decide +kernel) ?_
      obtain ⟨r67, σ66, hcr67, hf⟩ := cl2_e hf
      refine v_cSN C [.long x2, .int x4] [.int x4, .ref (G.1 + b65)] (c_N_isIn G l σ x2 x4 hcr67) 72 2 tw_455 tw_815 tw_454 tw_1 hd_N_isIn rfl ⟨(Nat.le_of_ble_eq_true rfl), (Nat.le_of_ble_eq_true rfl)⟩ ⟨(Nat.le_of_ble_eq_true rfl), (Nat.le_of_ble_eq_true rfl)⟩ (Nat.le_of_ble_eq_true rfl) rfl 35 rfl (by decide +kernel) [.int r67, .int x4, .ref (G.1 + b65)] rfl ?_
      refine v_if_eq C 48 38 rfl (by decide +kernel) (fun h68 => ?_) (fun h68 => ?_)
      · have hf := ite2_t hf h68
        refine v_lconst C 0 (0) (by decide) 49 rfl (by decide +kernel) ?_
        obtain ⟨hi69, hf⟩ := grd_e hf
        obtain ⟨σ70, hσ70, hf⟩ := bnd_e hf
        refine v_last C hσ70 (ns_kd_lt hk_b65 (by decide)) hk_b65 hi69 50 rfl (by decide +kernel) ?_
        obtain ⟨z71, hz71, hf⟩ := bnd_e hf
        refine v_iinc C 4 (1) 3 z71 rfl (by rw [hz71]; rfl) [(4, .int z71), (0, .ref (G.1 + a0)), (1, .ref (G.1 + a1)), (2, .long x2)] (by decide) rfl 53 rfl (by decide +kernel) ?_
        refine v_goto C 16 (by decide +kernel) ?_
        refine v_sub [1, 2, 3, 0] rfl ?_
        exact ih σ70 a0 a1 x2 z71 hk_a0 hk_a1 hf
      · have hf := ite2_f hf h68
        refine v_lload_n C 2 2 rfl 39 rfl (by decide +kernel) ?_
        refine v_iload C 4 3 rfl 41 rfl (by decide +kernel) ?_
        obtain ⟨r73, σ72, hcr73, hf⟩ := cl2_e hf
        refine v_cSN C [.int x4] [.long x2, .int x4, .ref (G.1 + b65)] (c_N_above G l σ66 x4 hcr73) 76 1 tw_406 tw_847 tw_405 tw_1 hd_N_above rfl ⟨(Nat.le_of_ble_eq_true rfl), (Nat.le_of_ble_eq_true rfl)⟩ ⟨(Nat.le_of_ble_eq_true rfl), (Nat.le_of_ble_eq_true rfl)⟩ (Nat.le_of_ble_eq_true rfl) rfl 44 rfl (by decide +kernel) [.long r73, .long x2, .int x4, .ref (G.1 + b65)] rfl ?_
        refine v_land C 45 rfl (by decide +kernel) ?_
        refine v_goto C 49 (by decide +kernel) ?_
        obtain ⟨hi74, hf⟩ := grd_e hf
        obtain ⟨σ75, hσ75, hf⟩ := bnd_e hf
        refine v_last C hσ75 (ns_kd_lt hk_b65 (by decide)) hk_b65 hi74 50 rfl (by decide +kernel) ?_
        obtain ⟨z76, hz76, hf⟩ := bnd_e hf
        refine v_iinc C 4 (1) 3 z76 rfl (by rw [hz76]; rfl) [(4, .int z76), (0, .ref (G.1 + a0)), (1, .ref (G.1 + a1)), (2, .long x2)] (by decide) rfl 53 rfl (by decide +kernel) ?_
        refine v_goto C 16 (by decide +kernel) ?_
        refine v_sub [1, 2, 3, 0] rfl ?_
        exact ih σ75 a0 a1 x2 z76 hk_a0 hk_a1 hf
theorem c_StonePlan_isPairEnough (G : ns_G) (l : Launch) (σ : ns_St) (a0 : Nat) (a1 : Nat) {r : Int32} {σ' : ns_St} (hf : g_StonePlan_isPairEnough σ a0 a1 = some (r, σ')) : ns_ok G l ⟨"NinthStep$StonePlan", "isPairEnough", "(LNinthStep$World;)Z"⟩ prog_6_method_4_code 5 (some .boolean) 5 117 0 0 [.ref (G.1 + a0), .ref (G.1 + a1)] ns_N σ (some (.int r)) ns_N σ' := by
  refine v_open (by decide) (Nat.le_of_ble_eq_true rfl) rfl ?_
  intro p e s m below meth c C hr _
  have C : ns_Cx G p s m _ meth c prog_6_method_4_code "NinthStep$StonePlan" 5 := C
  unfold g_StonePlan_isPairEnough at hf
  obtain ⟨hk_a0, hf⟩ := grd_e hf
  obtain ⟨hk_a1, hf⟩ := grd_e hf
  refine v_aload_n C 0 0 rfl 1 rfl (by decide +kernel) ?_
  refine v_aload_n C 1 1 rfl 2 rfl (by decide +kernel) ?_
  obtain ⟨b77, hb77, hf⟩ := drf_e hf
  obtain ⟨hk_b77, hf⟩ := grd_e hf
  refine v_getRN C 7 0 hb77 rfl nin_7 (ns_kd_lt hk_a1 (by decide)) hk_a1 (by decide) (by decide) rfl 38 tw_126 rfl 5 rfl (by decide +kernel) ?_
  obtain ⟨σ78, hσ78, hf⟩ := bnd_e hf
  refine v_putR C 4 7 hσ78 rfl nin_4 ny_4 nty_4 nnm_4 (ns_kd_lt hk_a0 (by decide)) hk_a0 (by decide) (by decide) rfl rfl rfl rfl 44 tw_227 rfl 8 rfl (by decide +kernel) ?_
  refine v_aload_n C 0 0 rfl 9 rfl (by decide +kernel) ?_
  obtain ⟨r80, σ79, hcr80, hf⟩ := cl2_e hf
  refine v_cV C 4 rfl (ns_kd_lt hk_a0 (by decide)) hk_a0 (by decide) [] [] (c_StonePlan_freePlaces G l σ78 a0 hcr80) 57 0 tw_823 tw_820 tw_822 ts_55 tw_7 hd_StonePlan_freePlaces rfl ⟨(Nat.le_of_ble_eq_true rfl), (Nat.le_of_ble_eq_true rfl)⟩ ⟨(Nat.le_of_ble_eq_true rfl), (Nat.le_of_ble_eq_true rfl)⟩ (Nat.le_of_ble_eq_true rfl) rfl 12 rfl (by decide +kernel) [.long r80] rfl ?_
  refine v_lstore_n C 2 [(2, .long r80), (0, .ref (G.1 + a0)), (1, .ref (G.1 + a1))] (by decide) rfl 13 rfl (by decide +kernel) ?_
  refine v_iconst C (0) (0) (by decide) 14 rfl (by decide +kernel) ?_
  refine v_istore C 4 [(4, .int (0 : Int32)), (2, .long r80), (0, .ref (G.1 + a0)), (1, .ref (G.1 + a1))] (by decide) rfl 16 rfl (by decide +kernel) ?_
  refine v_sub [2, 3, 1, 0] rfl ?_
  exact t_StonePlan_isPairEnough_16 G l C hr  ns_F σ79 a0 a1 r80 (0 : Int32) hk_a0 hk_a1 hf
theorem hd_StonePlan_isPairEnough : (⟨"NinthStep$StonePlan", "isPairEnough", "(LNinthStep$World;)Z"⟩ : MethodName).cls = "NinthStep$StonePlan" ∧ (⟨"NinthStep$StonePlan", "isPairEnough", "(LNinthStep$World;)Z"⟩ : MethodName).cls ≠ "java/lang/invoke/MethodHandle" ∧ (⟨"NinthStep$StonePlan", "isPairEnough", "(LNinthStep$World;)Z"⟩ : MethodName).cls ≠ "java/lang/invoke/VarHandle" ∧ (parseMethodDescriptor (⟨"NinthStep$StonePlan", "isPairEnough", "(LNinthStep$World;)Z"⟩ : MethodName).desc).map (fun d => d.parameters.length) = some 1 := by decide +kernel
