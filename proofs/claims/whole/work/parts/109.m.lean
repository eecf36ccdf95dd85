def g_StonePlan_heedSeconds_161 (kh55 : ns_St → Nat → Nat → Int32 → Int32 → Option (Unit × ns_St)) (σ : ns_St) (a0 : Nat) (a1 : Nat) (x5 : Int32) : Option (Unit × ns_St) := bnd (x5 + 1) fun z41 => kh55 σ a0 a1 (1 : Int32) z41
def g_StonePlan_heedSeconds_144 (kh55 : ns_St → Nat → Nat → Int32 → Int32 → Option (Unit × ns_St)) (σ : ns_St) (a0 : Nat) (a1 : Nat) (x4 : Int32) (x5 : Int32) : Option (Unit × ns_St) := ite2 (x4 = 0) (drf (σ.2.2 a0 3) fun b43 => grd (ns_kd b43 = 2) <| cl2 (g_StonePlan_fallsNext σ a0 b43 (0 : Int32)) fun r45 σ44 => ite2 (r45 = 0) (bnd (x5 + 1) fun z47 => kh55 σ44 a0 a1 (0 : Int32) z47) (g_StonePlan_heedSeconds_161 kh55 σ44 a0 a1 x5)) (g_StonePlan_heedSeconds_161 kh55 σ a0 a1 x5)
def g_StonePlan_heedSeconds_142 (kh55 : ns_St → Nat → Nat → Int32 → Int32 → Option (Unit × ns_St)) (σ : ns_St) (s0 : Nat) (s1 : Int32) (s2 : Int64) (s3 : Int64) (a0 : Nat) (a1 : Nat) (x4 : Int32) (x5 : Int32) : Option (Unit × ns_St) := grd (ns_in s1 (ns_ln s0)) <| bnd (ns_pJ σ s0 (ns_ix s1) (s2 &&& s3)) fun σ49 => g_StonePlan_heedSeconds_144 kh55 σ49 a0 a1 x4 x5
def g_StonePlan_heedSeconds_115 (kh55 : ns_St → Nat → Nat → Int32 → Int32 → Option (Unit × ns_St)) (σ : ns_St) (s0 : Int32) (a0 : Nat) (a1 : Nat) (x4 : Int32) (x5 : Int32) : Option (Unit × ns_St) := drf (σ.2.2 a0 1) fun b50 => grd (ns_kd b50 = 11) <| grd (ns_in x5 (ns_ln b50)) <| ite2 (s0 = 0) (g_StonePlan_heedSeconds_142 kh55 σ b50 x5 (σ.2.1 b50 (ns_ix x5)) (0 : Int64) a0 a1 x4 x5) (drf (σ.2.2 a0 4) fun b53 => grd (ns_kd b53 = 2) <| cl2 (g_StonePlan_helpersAhead σ a0 b53) fun r55 σ54 => g_StonePlan_heedSeconds_142 kh55 σ54 b50 x5 (σ.2.1 b50 (ns_ix x5)) r55 a0 a1 x4 x5)
def g_StonePlan_heedSeconds_114 (kh55 : ns_St → Nat → Nat → Int32 → Int32 → Option (Unit × ns_St)) (σ : ns_St) (a0 : Nat) (a1 : Nat) (x4 : Int32) (x5 : Int32) : Option (Unit × ns_St) := g_StonePlan_heedSeconds_115 kh55 σ (0 : Int32) a0 a1 x4 x5
def g_StonePlan_heedSeconds_55  : Nat → ns_St → Nat → Nat → Int32 → Int32 → Option (Unit × ns_St)
  | 0, _, _, _, _, _ => none
  | f + 1, σ, a0, a1, x4, x5 => drf (σ.2.2 a0 7) fun b56 => grd (ns_kd b56 = 1) <| ite2 ((σ.1 b56 0) < x5) (some ((), σ)) (drf (σ.2.2 a0 1) fun b58 => grd (ns_kd b58 = 11) <| grd (ns_in x5 (ns_ln b58)) <| ite2 ((lg_cmp (σ.2.1 b58 (ns_ix x5)) (0 : Int64)) = 0) (g_StonePlan_heedSeconds_144 (g_StonePlan_heedSeconds_55 f) σ a0 a1 x4 x5) (drf (σ.2.2 a0 4) fun b61 => grd (ns_kd b61 = 2) <| drf (σ.2.2 a0 3) fun b62 => grd (ns_kd b62 = 2) <| cl2 (g_Mule_takeFrom σ b61 b62) fun r64 σ63 => ite2 (x4 = 0) (drf (σ63.2.2 a0 4) fun b66 => grd (ns_kd b66 = 2) <| cl2 (g_StonePlan_fallsNext σ63 a0 b66 (σ63.1 a1 7)) fun r68 σ67 => ite2 (r68 = 0) (g_StonePlan_heedSeconds_115 (g_StonePlan_heedSeconds_55 f) σ67 (1 : Int32) a0 a1 x4 x5) (g_StonePlan_heedSeconds_114 (g_StonePlan_heedSeconds_55 f) σ67 a0 a1 x4 x5)) (g_StonePlan_heedSeconds_114 (g_StonePlan_heedSeconds_55 f) σ63 a0 a1 x4 x5)))
def g_StonePlan_heedSeconds_36  (σ : ns_St) (a0 : Nat) (a1 : Nat) : Option (Unit × ns_St) := drf (σ.2.2 a0 3) fun b70 => grd (ns_kd b70 = 2) <| cl2 (g_Mule_takeFrom σ b70 a1) fun r72 σ71 => bnd ((σ71.1 a1 2) + (1 : Int32)) fun z73 => g_StonePlan_heedSeconds_55 ns_F σ71 a0 a1 (0 : Int32) z73
def g_StonePlan_heedSeconds_3  : Nat → ns_St → Nat → Nat → Int64 → Int32 → Option (Unit × ns_St)
  | 0, _, _, _, _, _ => none
  | f + 1, σ, a0, a1, x2, x4 => ite2 ((σ.1 a1 2) < x4) (g_StonePlan_heedSeconds_36 σ a0 a1) (ite2 ((61 : Int32) ≤ x4) (g_StonePlan_heedSeconds_36 σ a0 a1) (drf (σ.2.2 a0 1) fun b76 => grd (ns_kd b76 = 11) <| grd (ns_in x4 (ns_ln b76)) <| grd (ns_in x4 (ns_ln b76)) <| bnd (ns_pJ σ b76 (ns_ix x4) ((σ.2.1 b76 (ns_ix x4)) &&& x2)) fun σ79 => bnd (x4 + 1) fun z80 => (g_StonePlan_heedSeconds_3 f) σ79 a0 a1 x2 z80))
def g_StonePlan_heedSeconds (σ : ns_St) (a0 : Nat) (a1 : Nat) (x2 : Int64) : Option (Unit × ns_St) := grd (ns_kd a0 = 4) <| grd (ns_kd a1 = 2) <| g_StonePlan_heedSeconds_3 ns_F σ a0 a1 x2 (0 : Int32)
theorem t_StonePlan_heedSeconds_161 (G : ns_G) (l : Launch) {p : Program} {e : Env} {s : State} {m : MethodId} {args : Array Value} {below : List Frame} {meth : Method} {c : Code} (C : ns_Cx G p s m args meth c prog_6_method_8_code "NinthStep$StonePlan" 7) (hr : meth.sig.returnType = none) {r : Unit} {σ' : ns_St} {kh55 : ns_St → Nat → Nat → Int32 → Int32 → Option (Unit × ns_St)} (hkh55 : ∀ (σ : ns_St) (a0 : Nat) (a1 : Nat) (x4 : Int32) (x5 : Int32), ns_kd a0 = 4 → ns_kd a1 = 2 → kh55 σ a0 a1 x4 x5 = some (r, σ') → VV G p l e { frames := 4, cells := 0, slots := 0, locals := 91 } s m args below meth c 7 0 0 (MQ below (ns_Qc G none ns_N σ') args s 0 0 (ns_A G)) ns_N σ 55 [(0, .ref (G.1 + a0)), (1, .ref (G.1 + a1)), (4, .int x4), (5, .int x5)] []) (σ : ns_St) (a0 : Nat) (a1 : Nat) (x5 : Int32) (hk_a0 : ns_kd a0 = 4) (hk_a1 : ns_kd a1 = 2) (hf : g_StonePlan_heedSeconds_161 kh55 σ a0 a1 x5 = some (r, σ')) : VV G p l e { frames := 4, cells := 0, slots := 0, locals := 91 } s m args below meth c 7 0 0 (MQ below (ns_Qc G none ns_N σ') args s 0 0 (ns_A G)) ns_N σ 161 [(0, .ref (G.1 + a0)), (1, .ref (G.1 + a1)), (5, .int x5)] [] := by
  unfold g_StonePlan_heedSeconds_161 at hf
  refine v_iconst C (1) (1) (by decide) 162 rfl (by decide +kernel) ?_
  refine v_goto C 166 (by decide +kernel) ?_
  refine v_istore C 4 [(4, .int (1 : Int32)), (0, .ref (G.1 + a0)), (1, .ref (G.1 + a1)), (5, .int x5)] (by decide) rfl 168 rfl (by decide +kernel) ?_
  obtain ⟨z41, hz41, hf⟩ := bnd_e hf
  refine v_iinc C 5 (1) 3 z41 rfl (by rw [hz41]; rfl) [(5, .int z41), (4, .int (1 : Int32)), (0, .ref (G.1 + a0)), (1, .ref (G.1 + a1))] (by decide) rfl 171 rfl (by decide +kernel) ?_
  refine v_goto C 55 (by decide +kernel) ?_
  refine v_sub [2, 3, 1, 0] rfl ?_
  exact hkh55 σ a0 a1 (1 : Int32) z41 hk_a0 hk_a1 hf
theorem t_StonePlan_heedSeconds_144 (G : ns_G) (l : Launch) {p : Program} {e : Env} {s : State} {m : MethodId} {args : Array Value} {below : List Frame} {meth : Method} {c : Code} (C : ns_Cx G p s m args meth c prog_6_method_8_code "NinthStep$StonePlan" 7) (hr : meth.sig.returnType = none) {r : Unit} {σ' : ns_St} {kh55 : ns_St → Nat → Nat → Int32 → Int32 → Option (Unit × ns_St)} (hkh55 : ∀ (σ : ns_St) (a0 : Nat) (a1 : Nat) (x4 : Int32) (x5 : Int32), ns_kd a0 = 4 → ns_kd a1 = 2 → kh55 σ a0 a1 x4 x5 = some (r, σ') → VV G p l e { frames := 4, cells := 0, slots := 0, locals := 91 } s m args below meth c 7 0 0 (MQ below (ns_Qc G none ns_N σ') args s 0 0 (ns_A G)) ns_N σ 55 [(0, .ref (G.1 + a0)), (1, .ref (G.1 + a1)), (4, .int x4), (5, .int x5)] []) (σ : ns_St) (a0 : Nat) (a1 : Nat) (x4 : Int32) (x5 : Int32) (hk_a0 : ns_kd a0 = 4) (hk_a1 : ns_kd a1 = 2) (hf : g_StonePlan_heedSeconds_144 kh55 σ a0 a1 x4 x5 = some (r, σ')) : VV G p l e { frames := 4, cells := 0, slots := 0, locals := 91 } s m args below meth c 7 0 0 (MQ below (ns_Qc G none ns_N σ') args s 0 0 (ns_A G)) ns_N σ 144 [(0, .ref (G.1 + a0)), (1, .ref (G.1 + a1)), (4, .int x4), (5, .int x5)] [] := by
  unfold g_StonePlan_heedSeconds_144 at hf
  refine v_iload C 4 2 rfl 146 rfl (by decide +kernel) ?_
  refine v_if_ne C 161 149 rfl (by decide +kernel) (fun h42 => ?_) (fun h42 => ?_)
  · have hf := ite2_f hf h42
    refine v_sub [0, 1, 3] rfl ?_
    exact t_StonePlan_heedSeconds_161 G l C hr hkh55 σ a0 a1 x5 hk_a0 hk_a1 hf
  · have hf := ite2_t hf h42
    refine v_aload_n C 0 0 rfl 150 rfl (by decide +kernel) ?_
    refine v_aload_n C 0 0 rfl 151 rfl (by decide +kernel) ?_
    obtain ⟨b43, hb43, hf⟩ := drf_e hf
    obtain ⟨hk_b43, hf⟩ := grd_e hf
    refine v_getR C 4 3 hb43 rfl nin_4 (ns_kd_lt hk_a0 (by decide)) hk_a0 (by decide) (by decide) rfl 25 tw_223 rfl 154 rfl (by decide +kernel) ?_
    refine v_iconst C (0) (0) (by decide) 155 rfl (by decide +kernel) ?_
    obtain ⟨r45, σ44, hcr45, hf⟩ := cl2_e hf
    refine v_cV C 4 rfl (ns_kd_lt hk_a0 (by decide)) hk_a0 (by decide) [.ref (G.1 + b43), .int (0 : Int32)] [] (c_StonePlan_fallsNext G l σ a0 b43 (0 : Int32) hcr45) 110 2 tw_813 tw_810 tw_812 ts_53 tw_7 hd_StonePlan_fallsNext rfl ⟨(Nat.le_of_ble_eq_true rfl), (Nat.le_of_ble_eq_true rfl)⟩ ⟨(Nat.le_of_ble_eq_true rfl), (Nat.le_of_ble_eq_true rfl)⟩ (Nat.le_of_ble_eq_true rfl) rfl 158 rfl (by decide +kernel) [.int r45] rfl ?_
    refine v_if_eq C 165 161 rfl (by decide +kernel) (fun h46 => ?_) (fun h46 => ?_)
    · have hf := ite2_t hf h46
      refine v_iconst C (0) (0) (by decide) 166 rfl (by decide +kernel) ?_
      refine v_istore C 4 [(4, .int (0 : Int32)), (0, .ref (G.1 + a0)), (1, .ref (G.1 + a1)), (5, .int x5)] (by decide) rfl 168 rfl (by decide +kernel) ?_
      obtain ⟨z47, hz47, hf⟩ := bnd_e hf
      refine v_iinc C 5 (1) 3 z47 rfl (by rw [hz47]; rfl) [(5, .int z47), (4, .int (0 : Int32)), (0, .ref (G.1 + a0)), (1, .ref (G.1 + a1))] (by decide) rfl 171 rfl (by decide +kernel) ?_
      refine v_goto C 55 (by decide +kernel) ?_
      refine v_sub [2, 3, 1, 0] rfl ?_
      exact hkh55 σ44 a0 a1 (0 : Int32) z47 hk_a0 hk_a1 hf
    · have hf := ite2_f hf h46
      refine v_sub [0, 1, 3] rfl ?_
      exact t_StonePlan_heedSeconds_161 G l C hr hkh55 σ44 a0 a1 x5 hk_a0 hk_a1 hf
theorem t_StonePlan_heedSeconds_142 (G : ns_G) (l : Launch) {p : Program} {e : Env} {s : State} {m : MethodId} {args : Array Value} {below : List Frame} {meth : Method} {c : Code} (C : ns_Cx G p s m args meth c prog_6_method_8_code "NinthStep$StonePlan" 7) (hr : meth.sig.returnType = none) {r : Unit} {σ' : ns_St} {kh55 : ns_St → Nat → Nat → Int32 → Int32 → Option (Unit × ns_St)} (hkh55 : ∀ (σ : ns_St) (a0 : Nat) (a1 : Nat) (x4 : Int32) (x5 : Int32), ns_kd a0 = 4 → ns_kd a1 = 2 → kh55 σ a0 a1 x4 x5 = some (r, σ') → VV G p l e { frames := 4, cells := 0, slots := 0, locals := 91 } s m args below meth c 7 0 0 (MQ below (ns_Qc G none ns_N σ') args s 0 0 (ns_A G)) ns_N σ 55 [(0, .ref (G.1 + a0)), (1, .ref (G.1 + a1)), (4, .int x4), (5, .int x5)] []) (σ : ns_St) (s0 : Nat) (s1 : Int32) (s2 : Int64) (s3 : Int64) (a0 : Nat) (a1 : Nat) (x4 : Int32) (x5 : Int32) (hk_s0 : ns_kd s0 = 11) (hk_a0 : ns_kd a0 = 4) (hk_a1 : ns_kd a1 = 2) (hf : g_StonePlan_heedSeconds_142 kh55 σ s0 s1 s2 s3 a0 a1 x4 x5 = some (r, σ')) : VV G p l e { frames := 4, cells := 0, slots := 0, locals := 91 } s m args below meth c 7 0 0 (MQ below (ns_Qc G none ns_N σ') args s 0 0 (ns_A G)) ns_N σ 142 [(0, .ref (G.1 + a0)), (1, .ref (G.1 + a1)), (4, .int x4), (5, .int x5)] [.long s3, .long s2, .int s1, .ref (G.1 + s0)] := by
  unfold g_StonePlan_heedSeconds_142 at hf
  refine v_land C 143 rfl (by decide +kernel) ?_
  obtain ⟨hi48, hf⟩ := grd_e hf
  obtain ⟨σ49, hσ49, hf⟩ := bnd_e hf
  refine v_last C hσ49 (ns_kd_lt hk_s0 (by decide)) hk_s0 hi48 144 rfl (by decide +kernel) ?_
  exact t_StonePlan_heedSeconds_144 G l C hr hkh55 σ49 a0 a1 x4 x5 hk_a0 hk_a1 hf
theorem t_StonePlan_heedSeconds_115 (G : ns_G) (l : Launch) {p : Program} {e : Env} {s : State} {m : MethodId} {args : Array Value} {below : List Frame} {meth : Method} {c : Code} (C : ns_Cx G p s m args meth c prog_6_method_8_code "NinthStep$StonePlan" 7) (hr : meth.sig.returnType = none) {r : Unit} {σ' : ns_St} {kh55 : ns_St → Nat → Nat → Int32 → Int32 → Option (Unit × ns_St)} (hkh55 : ∀ (σ : ns_St) (a0 : Nat) (a1 : Nat) (x4 : Int32) (x5 : Int32), ns_kd a0 = 4 → ns_kd a1 = 2 → kh55 σ a0 a1 x4 x5 = some (r, σ') → VV G p l e { frames := 4, cells := 0, slots := 0, locals := 91 } s m args below meth c 7 0 0 (MQ below (ns_Qc G none ns_N σ') args s 0 0 (ns_A G)) ns_N σ 55 [(0, .ref (G.1 + a0)), (1, .ref (G.1 + a1)), (4, .int x4), (5, .int x5)] []) (σ : ns_St) (s0 : Int32) (a0 : Nat) (a1 : Nat) (x4 : Int32) (x5 : Int32) (hk_a0 : ns_kd a0 = 4) (hk_a1 : ns_kd a1 = 2) (hf : g_StonePlan_heedSeconds_115 kh55 σ s0 a0 a1 x4 x5 = some (r, σ')) : VV G p l e { frames := 4, cells := 0, slots := 0, locals := 91 } s m args below meth c 7 0 0 (MQ below (ns_Qc G none ns_N σ') args s 0 0 (ns_A G)) ns_N σ 115 [(0, .ref (G.1 + a0)), (1, .ref (G.1 + a1)), (4, .int x4), (5, .int x5)] [.int s0] := by
  unfold g_StonePlan_heedSeconds_115 at hf
  refine v_istore C 6 [(6, .int s0), (0, .ref (G.1 + a0)), (1, .ref (G.1 + a1)), (4, .int x4), (5, .int x5)] (by decide) rfl 117 rfl (by decide +kernel) ?_
  refine v_aload_n C 0 1 rfl 118 rfl (by decide +kernel) ?_
  obtain ⟨b50, hb50, hf⟩ := drf_e hf
  obtain ⟨hk_b50, hf⟩ := grd_e hf
  refine v_getR C 4 1 hb50 rfl nin_4 (ns_kd_lt hk_a0 (by decide)) hk_a0 (by decide) (by decide) rfl 15 tw_221 rfl 121 rfl (by decide +kernel) ?_
  refine v_iload C 5 4 rfl 123 rfl (by decide +kernel) ?_
  refine v_dup2_11 C rfl rfl 124 rfl (by decide +kernel) ?_
  obtain ⟨hi51, hf⟩ := grd_e hf
  refine v_lald C (ns_kd_lt hk_b50 (by decide)) hk_b50 hi51 125 rfl (by decide +kernel) ?_
  refine v_iload C 6 0 rfl 127 rfl (by decide +kernel) ?_
  refine v_if_eq C 141 130 rfl (by decide +kernel) (fun h52 => ?_) (fun h52 => ?_)
  · have hf := ite2_t hf h52
    refine v_lconst C 0 (0) (by decide) 142 rfl (by decide +kernel) ?_
    refine v_sub [1, 2, 3, 4] rfl ?_
    exact t_StonePlan_heedSeconds_142 G l C hr hkh55 σ b50 x5 (σ.2.1 b50 (ns_ix x5)) (0 : Int64) a0 a1 x4 x5 hk_b50 hk_a0 hk_a1 hf
  · have hf := ite2_f hf h52
    refine v_aload_n C 0 1 rfl 131 rfl (by decide +kernel) ?_
    refine v_aload_n C 0 1 rfl 132 rfl (by decide +kernel) ?_
    obtain ⟨b53, hb53, hf⟩ := drf_e hf
    obtain ⟨hk_b53, hf⟩ := grd_e hf
    refine v_getR C 4 4 hb53 rfl nin_4 (ns_kd_lt hk_a0 (by decide)) hk_a0 (by decide) (by decide) rfl 29 tw_224 rfl 135 rfl (by decide +kernel) ?_
    obtain ⟨r55, σ54, hcr55, hf⟩ := cl2_e hf
    refine v_cV C 4 rfl (ns_kd_lt hk_a0 (by decide)) hk_a0 (by decide) [.ref (G.1 + b53)] [.long (σ.2.1 b50 (ns_ix x5)), .int x5, .ref (G.1 + b50)] (c_StonePlan_helpersAhead G l σ a0 b53 hcr55) 117 1 tw_846 tw_843 tw_845 ts_59 tw_7 hd_StonePlan_helpersAhead rfl ⟨(Nat.le_of_ble_eq_true rfl), (Nat.le_of_ble_eq_true rfl)⟩ ⟨(Nat.le_of_ble_eq_true rfl), (Nat.le_of_ble_eq_true rfl)⟩ (Nat.le_of_ble_eq_true rfl) rfl 138 rfl (by decide +kernel) [.long r55, .long (σ.2.1 b50 (ns_ix x5)), .int x5, .ref (G.1 + b50)] rfl ?_
    refine v_goto C 142 (by decide +kernel) ?_
    refine v_sub [1, 2, 3, 4] rfl ?_
    exact t_StonePlan_heedSeconds_142 G l C hr hkh55 σ54 b50 x5 (σ.2.1 b50 (ns_ix x5)) r55 a0 a1 x4 x5 hk_b50 hk_a0 hk_a1 hf
theorem t_StonePlan_heedSeconds_114 (G : ns_G) (l : Launch) {p : Program} {e : Env} {s : State} {m : MethodId} {args : Array Value} {below : List Frame} {meth : Method} {c : Code} (C : ns_Cx G p s m args meth c prog_6_method_8_code "NinthStep$StonePlan" 7) (hr : meth.sig.returnType = none) {r : Unit} {σ' : ns_St} {kh55 : ns_St → Nat → Nat → Int32 → Int32 → Option (Unit × ns_St)} (hkh55 : ∀ (σ : ns_St) (a0 : Nat) (a1 : Nat) (x4 : Int32) (x5 : Int32), ns_kd a0 = 4 → ns_kd a1 = 2 → kh55 σ a0 a1 x4 x5 = some (r, σ') → VV G p l e { frames := 4, cells := 0, slots := 0, locals := 91 } s m args below meth c 7 0 0 (MQ below (ns_Qc G none ns_N σ') args s 0 0 (ns_A G)) ns_N σ 55 [(0, .ref (G.1 + a0)), (1, .ref (G.1 + a1)), (4, .int x4), (5, .int x5)] []) (σ : ns_St) (a0 : Nat) (a1 : Nat) (x4 : Int32) (x5 : Int32) (hk_a0 : ns_kd a0 = 4) (hk_a1 : ns_kd a1 = 2) (hf : g_StonePlan_heedSeconds_114 kh55 σ a0 a1 x4 x5 = some (r, σ')) : VV G p l e { frames := 4, cells := 0, slots := 0, locals := 91 } s m args below meth c 7 0 0 (MQ below (ns_Qc G none ns_N σ') args s 0 0 (ns_A G)) ns_N σ 114 [(0, .ref (G.1 + a0)), (1, .ref (G.1 + a1)), (4, .int x4), (5, .int x5)] [] := by
  unfold g_StonePlan_heedSeconds_114 at hf
  refine v_iconst C (0) (0) (by decide) 115 rfl (by decide +kernel) ?_
  exact t_StonePlan_heedSeconds_115 G l C hr hkh55 σ (0 : Int32) a0 a1 x4 x5 hk_a0 hk_a1 hf
theorem t_StonePlan_heedSeconds_55 (G : ns_G) (l : Launch) {p : Program} {e : Env} {s : State} {m : MethodId} {args : Array Value} {below : List Frame} {meth : Method} {c : Code} (C : ns_Cx G p s m args meth c prog_6_method_8_code "NinthStep$StonePlan" 7) (hr : meth.sig.returnType = none) {r : Unit} {σ' : ns_St}  : ∀ (f : Nat) (σ : ns_St) (a0 : Nat) (a1 : Nat) (x4 : Int32) (x5 : Int32) (hk_a0 : ns_kd a0 = 4) (hk_a1 : ns_kd a1 = 2), g_StonePlan_heedSeconds_55 f σ a0 a1 x4 x5 = some (r, σ') → VV G p l e { frames := 4, cells := 0, slots := 0, locals := 91 } s m args below meth c 7 0 0 (MQ below (ns_Qc G none ns_N σ') args s 0 0 (ns_A G)) ns_N σ 55 [(0, .ref (G.1 + a0)), (1, .ref (G.1 + a1)), (4, .int x4), (5, .int x5)] [] := by
  intro f
  induction f with
  | zero =>
    intro σ a0 a1 x4 x5 hk_a0 hk_a1 hf
    cases hf
  | succ f ih =>
    intro σ a0 a1 x4 x5 hk_a0 hk_a1 hf
    rw [g_StonePlan_heedSeconds_55] at hf
    refine v_iload C 5 3 rfl 57 rfl (by decide +kernel) ?_
    refine v_aload_n C 0 0 rfl 58 rfl (by decide +kernel) ?_
    obtain ⟨b56, hb56, hf⟩ := drf_e hf
    obtain ⟨hk_b56, hf⟩ := grd_e hf
    refine v_getR C 4 7 hb56 rfl nin_4 (ns_kd_lt hk_a0 (by decide)) hk_a0 (by decide) (by decide) rfl 44 tw_227 rfl 61 rfl (by decide +kernel) ?_
    refine v_getIN C 1 0 rfl nin_1 (ns_kd_lt hk_b56 (by decide)) hk_b56 (by decide) (by decide) rfl 87 tw_42 rfl 64 rfl (by decide +kernel) ?_
    refine v_icmp_gt C 174 67 rfl (by decide +kernel) (fun h57 => ?_) (fun h57 => ?_)
    · have hf := ite2_t hf h57
      obtain ⟨rfl, rfl⟩ := ret_e hf
      exact v_vret C hr (by decide +kernel)
    · have hf := ite2_f hf h57
      refine v_aload_n C 0 0 rfl 68 rfl (by decide +kernel) ?_
      obtain ⟨b58, hb58, hf⟩ := drf_e hf
      obtain ⟨hk_b58, hf⟩ := grd_e hf
      refine v_getR C 4 1 hb58 rfl nin_4 (ns_kd_lt hk_a0 (by decide)) hk_a0 (by decide) (by decide) rfl 15 tw_221 rfl 71 rfl (by decide +kernel) ?_
      refine v_iload C 5 3 rfl 73 rfl (by decide +kernel) ?_
      obtain ⟨hi59, hf⟩ := grd_e hf
      refine v_lald C (ns_kd_lt hk_b58 (by decide)) hk_b58 hi59 74 rfl (by decide +kernel) ?_
      refine v_lconst C 0 (0) (by decide) 75 rfl (by decide +kernel) ?_
      refine v_lcmp C 76 rfl (by decide +kernel) ?_
      refine v_if_eq C 144 79 rfl (by decide +kernel) (fun h60 => ?_) (fun h60 => ?_)
      · have hf := ite2_t hf h60
        exact t_StonePlan_heedSeconds_144 G l C hr ih σ a0 a1 x4 x5 hk_a0 hk_a1 hf
      · have hf := ite2_f hf h60
        refine v_aload_n C 0 0 rfl 80 rfl (by decide +kernel) ?_
        obtain ⟨b61, hb61, hf⟩ := drf_e hf
        obtain ⟨hk_b61, hf⟩ := grd_e hf
        refine v_getR C 4 4 hb61 rfl nin_4 (ns_kd_lt hk_a0 (by decide)) hk_a0 (by decide) (by decide) rfl 29 tw_224 rfl 83 rfl (by decide +kernel) ?_
        refine v_aload_n C 0 0 rfl 84 rfl (by decide +kernel) ?_
        obtain ⟨b62, hb62, hf⟩ := drf_e hf
        obtain ⟨hk_b62, hf⟩ := grd_e hf
        refine v_getR C 4 3 hb62 rfl nin_4 (ns_kd_lt hk_a0 (by decide)) hk_a0 (by decide) (by decide) rfl 25 tw_223 rfl 87 rfl (by decide +kernel) ?_
        obtain ⟨r64, σ63, hcr64, hf⟩ := cl2_e hf
        refine v_cVN C 2 rfl (ns_kd_lt hk_b61 (by decide)) hk_b61 (by decide) [.ref (G.1 + b62)] [] (c_Mule_takeFrom G l σ b61 b62 hcr64) 103 1 tw_522 tw_809 tw_521 ts_19 tw_4 hd_Mule_takeFrom rfl ⟨(Nat.le_of_ble_eq_true rfl), (Nat.le_of_ble_eq_true rfl)⟩ ⟨(Nat.le_of_ble_eq_true rfl), (Nat.le_of_ble_eq_true rfl)⟩ (Nat.le_of_ble_eq_true rfl) rfl 90 rfl (by decide +kernel) [] rfl ?_
        refine v_iload C 4 2 rfl 92 rfl (by decide +kernel) ?_
        refine v_if_ne C 114 95 rfl (by decide +kernel) (fun h65 => ?_) (fun h65 => ?_)
        · have hf := ite2_f hf h65
          exact t_StonePlan_heedSeconds_114 G l C hr ih σ63 a0 a1 x4 x5 hk_a0 hk_a1 hf
        · have hf := ite2_t hf h65
          refine v_aload_n C 0 0 rfl 96 rfl (by decide +kernel) ?_
          refine v_aload_n C 0 0 rfl 97 rfl (by decide +kernel) ?_
          obtain ⟨b66, hb66, hf⟩ := drf_e hf
          obtain ⟨hk_b66, hf⟩ := grd_e hf
          refine v_getR C 4 4 hb66 rfl nin_4 (ns_kd_lt hk_a0 (by decide)) hk_a0 (by decide) (by decide) rfl 29 tw_224 rfl 100 rfl (by decide +kernel) ?_
          refine v_aload_n C 1 1 rfl 101 rfl (by decide +kernel) ?_
          refine v_getIN C 2 7 rfl nin_2 (ns_kd_lt hk_a1 (by decide)) hk_a1 (by decide) (by decide) rfl 123 tw_107 rfl 104 rfl (by decide +kernel) ?_
          obtain ⟨r68, σ67, hcr68, hf⟩ := cl2_e hf
          refine v_cV C 4 rfl (ns_kd_lt hk_a0 (by decide)) hk_a0 (by decide) [.ref (G.1 + b66), .int (σ63.1 a1 7)] [] (c_StonePlan_fallsNext G l σ63 a0 b66 (σ63.1 a1 7) hcr68) 110 2 tw_813 tw_810 tw_812 ts_53 tw_7 hd_StonePlan_fallsNext rfl ⟨(Nat.le_of_ble_eq_true rfl), (Nat.le_of_ble_eq_true rfl)⟩ ⟨(Nat.le_of_ble_eq_true rfl), (Nat.le_of_ble_eq_true rfl)⟩ (Nat.le_of_ble_eq_true rfl) rfl 107 rfl (by decide +kernel) [.int r68] rfl ?_
          refine v_if_ne C 114 110 rfl (by decide +kernel) (fun h69 => ?_) (fun h69 => ?_)
          · have hf := ite2_f hf h69
            exact t_StonePlan_heedSeconds_114 G l C hr ih σ67 a0 a1 x4 x5 hk_a0 hk_a1 hf
          · have hf := ite2_t hf h69
            refine v_iconst C (1) (1) (by decide) 111 rfl (by decide +kernel) ?_
            refine v_goto C 115 (by decide +kernel) ?_
            exact t_StonePlan_heedSeconds_115 G l C hr ih σ67 (1 : Int32) a0 a1 x4 x5 hk_a0 hk_a1 hf
theorem t_StonePlan_heedSeconds_36 (G : ns_G) (l : Launch) {p : Program} {e : Env} {s : State} {m : MethodId} {args : Array Value} {below : List Frame} {meth : Method} {c : Code} (C : ns_Cx G p s m args meth c prog_6_method_8_code "NinthStep$StonePlan" 7) (hr : meth.sig.returnType = none) {r : Unit} {σ' : ns_St}  (σ : ns_St) (a0 : Nat) (a1 : Nat) (hk_a0 : ns_kd a0 = 4) (hk_a1 : ns_kd a1 = 2) (hf : g_StonePlan_heedSeconds_36 σ a0 a1 = some (r, σ')) : VV G p l e { frames := 4, cells := 0, slots := 0, locals := 91 } s m args below meth c 7 0 0 (MQ below (ns_Qc G none ns_N σ') args s 0 0 (ns_A G)) ns_N σ 36 [(0, .ref (G.1 + a0)), (1, .ref (G.1 + a1))] [] := by
  unfold g_StonePlan_heedSeconds_36 at hf
  refine v_aload_n C 0 0 rfl 37 rfl (by decide +kernel) ?_
  obtain ⟨b70, hb70, hf⟩ := drf_e hf
  obtain ⟨hk_b70, hf⟩ := grd_e hf
  refine v_getR C 4 3 hb70 rfl nin_4 (ns_kd_lt hk_a0 (by decide)) hk_a0 (by decide) (by decide) rfl 25 tw_223 rfl 40 rfl (by decide +kernel) ?_
  refine v_aload_n C 1 1 rfl 41 rfl (by decide +kernel) ?_
  obtain ⟨r72, σ71, hcr72, hf⟩ := cl2_e hf
  refine v_cVN C 2 rfl (ns_kd_lt hk_b70 (by decide)) hk_b70 (by decide) [.ref (G.1 + a1)] [] (c_Mule_takeFrom G l σ b70 a1 hcr72) 103 1 tw_522 tw_809 tw_521 ts_19 tw_4 hd_Mule_takeFrom rfl ⟨(Nat.le_of_ble_eq_true rfl), (Nat.le_of_ble_eq_true rfl)⟩ ⟨(Nat.le_of_ble_eq_true rfl), (Nat.le_of_ble_eq_true rfl)⟩ (Nat.le_of_ble_eq_true rfl) rfl 44 rfl (by decide +kernel) [] rfl ?_
  refine v_iconst C (0) (0) (by decide) 45 rfl (by decide +kernel) ?_
  refine v_istore C 4 [(4, .int (0 : Int32)), (0, .ref (G.1 + a0)), (1, .ref (G.1 + a1))] (by decide) rfl 47 rfl (by decide +kernel) ?_
  refine v_aload_n C 1 2 rfl 48 rfl (by decide +kernel) ?_
  refine v_getIN C 2 2 rfl nin_2 (ns_kd_lt hk_a1 (by decide)) hk_a1 (by decide) (by decide) rfl 107 tw_90 rfl 51 rfl (by decide +kernel) ?_
  refine v_iconst C (1) (1) (by decide) 52 rfl (by decide +kernel) ?_
  refine v_iadd C 53 rfl (by decide +kernel) ?_
  obtain ⟨z73, hz73, hf⟩ := bnd_e hf
  refine v_nmI hz73 ?_
  refine v_istore C 5 [(5, .int z73), (4, .int (0 : Int32)), (0, .ref (G.1 + a0)), (1, .ref (G.1 + a1))] (by decide) rfl 55 rfl (by decide +kernel) ?_
  refine v_sub [2, 3, 1, 0] rfl ?_
  exact t_StonePlan_heedSeconds_55 G l C hr  ns_F σ71 a0 a1 (0 : Int32) z73 hk_a0 hk_a1 hf
theorem t_StonePlan_heedSeconds_3 (G : ns_G) (l : Launch) {p : Program} {e : Env} {s : State} {m : MethodId} {args : Array Value} {below : List Frame} {meth : Method} {c : Code} (C : ns_Cx G p s m args meth c prog_6_method_8_code "NinthStep$StonePlan" 7) (hr : meth.sig.returnType = none) {r : Unit} {σ' : ns_St}  : ∀ (f : Nat) (σ : ns_St) (a0 : Nat) (a1 : Nat) (x2 : Int64) (x4 : Int32) (hk_a0 : ns_kd a0 = 4) (hk_a1 : ns_kd a1 = 2), g_StonePlan_heedSeconds_3 f σ a0 a1 x2 x4 = some (r, σ') → VV G p l e { frames := 4, cells := 0, slots := 0, locals := 91 } s m args below meth c 7 0 0 (MQ below (ns_Qc G none ns_N σ') args s 0 0 (ns_A G)) ns_N σ 3 [(0, .ref (G.1 + a0)), (1, .ref (G.1 + a1)), (2, .long x2), (4, .int x4)] [] := by
  intro f
  induction f with
  | zero =>
    intro σ a0 a1 x2 x4 hk_a0 hk_a1 hf
    cases hf
  | succ f ih =>
    intro σ a0 a1 x2 x4 hk_a0 hk_a1 hf
    rw [g_StonePlan_heedSeconds_3] at hf
    refine v_iload C 4 3 rfl 5 rfl (by decide +kernel) ?_
    refine v_aload_n C 1 1 rfl 6 rfl (by decide +kernel) ?_
    refine v_getIN C 2 2 rfl nin_2 (ns_kd_lt hk_a1 (by decide)) hk_a1 (by decide) (by decide) rfl 107 tw_90 rfl 9 rfl (by decide +kernel) ?_
    refine v_icmp_gt C 36 12 rfl (by decide +kernel) (fun h74 => ?_) (fun h74 => ?_)
    · have hf := ite2_t hf h74
      refine v_sub [0, 1] rfl ?_
      exact t_StonePlan_heedSeconds_36 G l C hr  σ a0 a1 hk_a0 hk_a1 hf
    · have hf := ite2_f hf h74
      refine v_iload C 4 3 rfl 14 rfl (by decide +kernel) ?_
      refine v_bipush C (61) (61) (by decide) 16 rfl (by decide +kernel) ?_
      refine v_icmp_ge C 36 19 rfl (by decide +kernel) (fun h75 => ?_) (fun h75 => ?_)
      · have hf := ite2_t hf h75
        refine v_sub [0, 1] rfl ?_
        exact t_StonePlan_heedSeconds_36 G l C hr  σ a0 a1 hk_a0 hk_a1 hf
      · have hf := ite2_f hf h75
        refine v_aload_n C 0 0 rfl 20 rfl (by decide +kernel) ?_
        obtain ⟨b76, hb76, hf⟩ := drf_e hf
        obtain ⟨hk_b76, hf⟩ := grd_e hf
        refine v_getR C 4 1 hb76 rfl nin_4 (ns_kd_lt hk_a0 (by decide)) hk_a0 (by decide) (by decide) rfl 15 tw_221 rfl 23 rfl (by decide +kernel) ?_
        refine v_iload C 4 3 rfl 25 rfl (by decide +kernel) ?_
        refine v_dup2_11 C rfl rfl 26 rfl (by decide +kernel) ?_
        obtain ⟨hi77, hf⟩ := grd_e hf
        refine v_lald C (ns_kd_lt hk_b76 (by decide)) hk_b76 hi77 27 rfl (by decide +kernel) ?_
        refine v_lload_n C 2 2 rfl 28 rfl (by decide +kernel) ?_
        refine v_land C 29 rfl (by decide +kernel) ?_
        obtain ⟨hi78, hf⟩ := grd_e hf
        obtain ⟨σ79, hσ79, hf⟩ := bnd_e hf
        refine v_last C hσ79 (ns_kd_lt hk_b76 (by decide)) hk_b76 hi78 30 rfl (by decide +kernel) ?_
        obtain ⟨z80, hz80, hf⟩ := bnd_e hf
        refine v_iinc C 4 (1) 3 z80 rfl (by rw [hz80]; rfl) [(4, .int z80), (0, .ref (G.1 + a0)), (1, .ref (G.1 + a1)), (2, .long x2)] (by decide) rfl 33 rfl (by decide +kernel) ?_
        refine v_goto C 3 (by decide +kernel) ?_
        refine v_sub [1, 2, 3, 0] rfl ?_
        exact ih σ79 a0 a1 x2 z80 hk_a0 hk_a1 hf
theorem c_StonePlan_heedSeconds (G : ns_G) (l : Launch) (σ : ns_St) (a0 : Nat) (a1 : Nat) (x2 : Int64) {r : Unit} {σ' : ns_St} (hf : g_StonePlan_heedSeconds σ a0 a1 x2 = some (r, σ')) : ns_ok G l ⟨"NinthStep$StonePlan", "heedSeconds", "(LNinthStep$Mule;J)V"⟩ prog_6_method_8_code 7 none 4 91 0 0 [.ref (G.1 + a0), .ref (G.1 + a1), .long x2] ns_N σ none ns_N σ' := by
  refine v_open (by decide) (Nat.le_of_ble_eq_true rfl) rfl ?_
  intro p e s m below meth c C hr _
  have C : ns_Cx G p s m _ meth c prog_6_method_8_code "NinthStep$StonePlan" 7 := C
  unfold g_StonePlan_heedSeconds at hf
  obtain ⟨hk_a0, hf⟩ := grd_e hf
  obtain ⟨hk_a1, hf⟩ := grd_e hf
  refine v_iconst C (0) (0) (by decide) 1 rfl (by decide +kernel) ?_
  refine v_istore C 4 [(4, .int (0 : Int32)), (0, .ref (G.1 + a0)), (1, .ref (G.1 + a1)), (2, .long x2)] (by decide) rfl 3 rfl (by decide +kernel) ?_
  refine v_sub [1, 2, 3, 0] rfl ?_
  exact t_StonePlan_heedSeconds_3 G l C hr  ns_F σ a0 a1 x2 (0 : Int32) hk_a0 hk_a1 hf
theorem hd_StonePlan_heedSeconds : (⟨"NinthStep$StonePlan", "heedSeconds", "(LNinthStep$Mule;J)V"⟩ : MethodName).cls = "NinthStep$StonePlan" ∧ (⟨"NinthStep$StonePlan", "heedSeconds", "(LNinthStep$Mule;J)V"⟩ : MethodName).cls ≠ "java/lang/invoke/MethodHandle" ∧ (⟨"NinthStep$StonePlan", "heedSeconds", "(LNinthStep$Mule;J)V"⟩ : MethodName).cls ≠ "java/lang/invoke/VarHandle" ∧ (parseMethodDescriptor (⟨"NinthStep$StonePlan", "heedSeconds", "(LNinthStep$Mule;J)V"⟩ : MethodName).desc).map (fun d => d.parameters.length) = some 2 := by decide +kernel
def g_StonePlan_isPairEnough_99  : Nat → ns_St → Nat → Int32 → Option (Int32 × ns_St)
  | 0, _, _, _ => none
  | f + 1, σ, a0, x4 => ite2 ((61 : Int32) ≤ x4) (some ((0 : Int32), σ)) (drf (σ.2.2 a0 1) fun b42 => grd (ns_kd b42 = 11) <| grd (ns_in x4 (ns_ln b42)) <| ite2 ((lg_cmp (σ.2.1 b42 (ns_ix x4)) (0 : Int64)) = 0) (bnd (x4 + 1) fun z45 => (g_StonePlan_isPairEnough_99 f) σ a0 z45) (bnd (ns_pI σ a0 8 x4) fun σ46 => drf (σ46.2.2 a0 1) fun b47 => grd (ns_kd b47 = 11) <| grd (ns_in x4 (ns_ln b47)) <| cl2 (g_N_firstOf σ46 (σ46.2.1 b47 (ns_ix x4))) fun r50 σ49 => bnd (ns_pI σ49 a0 9 r50) fun σ51 => some ((1 : Int32), σ51)))
def g_StonePlan_isPairEnough_59  : Nat → ns_St → Nat → Nat → Int32 → Option (Int32 × ns_St)
  | 0, _, _, _, _ => none
  | f + 1, σ, a0, a1, x4 => ite2 ((σ.1 a1 2) ≤ x4) (g_StonePlan_isPairEnough_99 ns_F σ a0 (0 : Int32)) (drf (σ.2.2 a1 1) fun b53 => grd (ns_kd b53 = 12) <| grd (ns_in x4 (ns_ln b53)) <| drf (σ.2.2 b53 (ns_ix x4)) fun b55 => grd (ns_kd b55 = 2) <| drf (σ.2.2 a1 1) fun b56 => grd (ns_kd b56 = 12) <| grd (ns_in x4 (ns_ln b56)) <| drf (σ.2.2 b56 (ns_ix x4)) fun b58 => grd (ns_kd b58 = 2) <| cl2 (g_StonePlan_helpersFor σ a0 b58) fun r60 σ59 => cl2 (g_StonePlan_heedSeconds σ59 a0 b55 r60) fun r62 σ61 => bnd (x4 + 1) fun z63 => (g_StonePlan_isPairEnough_59 f) σ61 a0 a1 z63)
def g_StonePlan_isPairEnough_16  : Nat → ns_St → Nat → Nat → Int64 → Int32 → Option (Int32 × ns_St)
  | 0, _, _, _, _, _ => none
  | f + 1, σ, a0, a1, x2, x4 => ite2 ((61 : Int32) ≤ x4) (g_StonePlan_isPairEnough_59 ns_F σ a0 a1 (0 : Int32)) (drf (σ.2.2 a0 1) fun b65 => grd (ns_kd b65 = 11) <| cl2 (g_N_isIn σ x2 x4) fun r67 σ66 => ite2 (r67 = 0) (grd (ns_in x4 (ns_ln b65)) <| bnd (ns_pJ σ66 b65 (ns_ix x4) (0 : Int64)) fun σ70 => bnd (x4 + 1) fun z71 => (g_StonePlan_isPairEnough_16 f) σ70 a0 a1 x2 z71) (cl2 (g_N_above σ66 x4) fun r73 σ72 => grd (ns_in x4 (ns_ln b65)) <| bnd (ns_pJ σ72 b65 (ns_ix x4) (x2 &&& r73)) fun σ75 => bnd (x4 + 1) fun z76 => (g_StonePlan_isPairEnough_16 f) σ75 a0 a1 x2 z76))
def g_StonePlan_isPairEnough (σ : ns_St) (a0 : Nat) (a1 : Nat) : Option (Int32 × ns_St) := grd (ns_kd a0 = 4) <| grd (ns_kd a1 = 7) <| drf (σ.2.2 a1 0) fun b77 => grd (ns_kd b77 = 1) <| bnd (ns_pR σ a0 7 (some b77)) fun σ78 => cl2 (g_StonePlan_freePlaces σ78 a0) fun r80 σ79 => g_StonePlan_isPairEnough_16 ns_F σ79 a0 a1 r80 (0 : Int32)
theorem t_StonePlan_isPairEnough_99 (G : ns_G) (l : Launch) {p : Program} {e : Env} {s : State} {m : MethodId} {args : Array Value} {below : List Frame} {meth : Method} {c : Code} (C : ns_Cx G p s m args meth c prog_6_method_4_code "NinthStep$StonePlan" 5) (hr : meth.sig.returnType = (some .boolean)) {r : Int32} {σ' : ns_St}  : ∀ (f : Nat) (σ : ns_St) (a0 : Nat) (x4 : Int32) (hk_a0 : ns_kd a0 = 4), g_StonePlan_isPairEnough_99 f σ a0 x4 = some (r, σ') → VV G p l e { frames := 5, cells := 0, slots := 0, locals := 117 } s m args below meth c 5 0 0 (MQ below (ns_Qc G (some (.int r)) ns_N σ') args s 0 0 (ns_A G)) ns_N σ 99 [(0, .ref (G.1 + a0)), (4, .int x4)] [] := by
  intro f
  induction f with
  | zero =>
    intro σ a0 x4 hk_a0 hf
    cases hf
  | succ f ih =>
    intro σ a0 x4 hk_a0 hf
    rw [g_StonePlan_isPairEnough_99] at hf
    refine v_iload C 4 1 rfl 101 rfl (by decide +kernel) ?_
    refine v_bipush C (61) (61) (by decide) 103 rfl (by decide +kernel) ?_
    refine v_icmp_ge C 146 106 rfl (by decide +kernel) (fun h41 => ?_) (fun h41 => ?_)
    · have hf := ite2_t hf h41
      refine v_iconst C (0) (0) (by decide) 147 rfl (by decide +kernel) ?_
      obtain ⟨rfl, rfl⟩ := ret_e hf
      exact v_zret C hr rfl (by decide +kernel)
    · have hf := ite2_f hf h41
      refine v_aload_n C 0 0 rfl 107 rfl (by decide +kernel) ?_
      obtain ⟨b42, hb42, hf⟩ := drf_e hf
      obtain ⟨hk_b42, hf⟩ := grd_e hf
      refine v_getR C 4 1 hb42 rfl nin_4 (ns_kd_lt hk_a0 (by decide)) hk_a0 (by decide) (by decide) rfl 15 tw_221 rfl 110 rfl (by decide +kernel) ?_
      refine v_iload C 4 1 rfl 112 rfl (by decide +kernel) ?_
      obtain ⟨hi43, hf⟩ := grd_e hf
      refine v_lald C (ns_kd_lt hk_b42 (by decide)) hk_b42 hi43 113 rfl (by decide +kernel) ?_
      refine v_lconst C 0 (0) (by decide) 114 rfl (by decide +kernel) ?_
      refine v_lcmp C 115 rfl (by decide +kernel) ?_
      refine v_if_eq C 140 118 rfl (by decide +kernel) (fun h44 => ?_) (fun h44 => ?_)
      · have hf := ite2_t hf h44
        obtain ⟨z45, hz45, hf⟩ := bnd_e hf
        refine v_iinc C 4 (1) 1 z45 rfl (by rw [hz45]; rfl) [(4, .int z45), (0, .ref (G.1 + a0))] (by decide) rfl 143 rfl (by decide +kernel) ?_
        refine v_goto C 99 (by decide +kernel) ?_
        refine v_sub [1, 0] rfl ?_
        exact ih σ a0 z45 hk_a0 hf
      · have hf := ite2_f hf h44
        refine v_aload_n C 0 0 rfl 119 rfl (by decide +kernel) ?_
        refine v_iload C 4 1 rfl 121 rfl (by decide +kernel) ?_
        obtain ⟨σ46, hσ46, hf⟩ := bnd_e hf
        refine v_putI C 4 8 hσ46 rfl nin_4 ny_4 nty_4 nnm_4 (ns_kd_lt hk_a0 (by decide)) hk_a0 (by decide) (by decide) rfl rfl rfl rfl 69 tw_228 rfl 124 rfl (by decide +kernel) ?_
        refine v_aload_n C 0 0 rfl 125 rfl (by decide +kernel) ?_
        refine v_aload_n C 0 0 rfl 126 rfl (by decide +kernel) ?_
        obtain ⟨b47, hb47, hf⟩ := drf_e hf
        obtain ⟨hk_b47, hf⟩ := grd_e hf
        refine v_getR C 4 1 hb47 rfl nin_4 (ns_kd_lt hk_a0 (by decide)) hk_a0 (by decide) (by decide) rfl 15 tw_221 rfl 129 rfl (by decide +kernel) ?_
        refine v_iload C 4 1 rfl 131 rfl (by decide +kernel) ?_
        obtain ⟨hi48, hf⟩ := grd_e hf
        refine v_lald C (ns_kd_lt hk_b47 (by decide)) hk_b47 hi48 132 rfl (by decide +kernel) ?_
        obtain ⟨r50, σ49, hcr50, hf⟩ := cl2_e hf
        refine v_cSN C [.long (σ46.2.1 b47 (ns_ix x4))] [.ref (G.1 + a0)] (c_N_firstOf G l σ46 (σ46.2.1 b47 (ns_ix x4)) hcr50) 65 1 tw_416 tw_848 tw_415 tw_1 hd_N_firstOf rfl ⟨(Nat.le_of_ble_eq_true rfl), (Nat.le_of_ble_eq_true rfl)⟩ ⟨(Nat.le_of_ble_eq_true rfl), (Nat.le_of_ble_eq_true rfl)⟩ (Nat.le_of_ble_eq_true rfl) rfl 135 rfl (by decide +kernel) [.int r50, .ref (G.1 + a0)] rfl ?_
        obtain ⟨σ51, hσ51, hf⟩ := bnd_e hf
        refine v_putI C 4 9 hσ51 rfl nin_4 ny_4 nty_4 nnm_4 (ns_kd_lt hk_a0 (by decide)) hk_a0 (by decide) (by decide) rfl rfl rfl rfl 84 tw_230 rfl 138 rfl (by decide +kernel) ?_
        refine v_iconst C (1) (1) (by decide) 139 rfl (by decide +kernel) ?_
        obtain ⟨rfl, rfl⟩ := ret_e hf
        exact v_zret C hr rfl (by decide +kernel)
theorem t_StonePlan_isPairEnough_59 (G : ns_G) (l : Launch) {p : Program} {e : Env} {s : State} {m : MethodId} {args : Array Value} {below : List Frame} {meth : Method} {c : Code} (C : ns_Cx G p s m args meth c prog_6_method_4_code "NinthStep$StonePlan" 5) (hr : meth.sig.returnType = (some .boolean)) {r : Int32} {σ' : ns_St}  : ∀ (f : Nat) (σ : ns_St) (a0 : Nat) (a1 : Nat) (x4 : Int32) (hk_a0 : ns_kd a0 = 4) (hk_a1 : ns_kd a1 = 7), g_StonePlan_isPairEnough_59 f σ a0 a1 x4 = some (r, σ') → VV G p l e { frames := 5, cells := 0, slots := 0, locals := 117 } s m args below meth c 5 0 0 (MQ below (ns_Qc G (some (.int r)) ns_N σ') args s 0 0 (ns_A G)) ns_N σ 59 [(0, .ref (G.1 + a0)), (1, .ref (G.1 + a1)), (4, .int x4)] [] := by
  intro f
  induction f with
  | zero =>
    intro σ a0 a1 x4 hk_a0 hk_a1 hf
    cases hf
  | succ f ih =>
    intro σ a0 a1 x4 hk_a0 hk_a1 hf
    rw [g_StonePlan_isPairEnough_59] at hf
    refine v_iload C 4 2 rfl 61 rfl (by decide +kernel) ?_
    refine v_aload_n C 1 1 rfl 62 rfl (by decide +kernel) ?_
    refine v_getIN C 7 2 rfl nin_7 (ns_kd_lt hk_a1 (by decide)) hk_a1 (by decide) (by decide) rfl 45 tw_132 rfl 65 rfl (by decide +kernel) ?_
    refine v_icmp_ge C 96 68 rfl (by decide +kernel) (fun h52 => ?_) (fun h52 => ?_)
    · have hf := ite2_t hf h52
      refine v_iconst C (0) (0) (by decide) 97 rfl (by decide +kernel) ?_
      refine v_istore C 4 [(4, .int (0 : Int32)), (0, .ref (G.1 + a0)), (1, .ref (G.1 + a1))] (by decide) rfl 99 rfl (by decide +kernel) ?_
      refine v_sub [1, 0] rfl ?_
      exact t_StonePlan_isPairEnough_99 G l C hr  ns_F σ a0 (0 : Int32) hk_a0 hf
    · have hf := ite2_f hf h52
      refine v_aload_n C 0 0 rfl 69 rfl (by decide +kernel) ?_
      refine v_aload_n C 1 1 rfl 70 rfl (by decide +kernel) ?_
      obtain ⟨b53, hb53, hf⟩ := drf_e hf
      obtain ⟨hk_b53, hf⟩ := grd_e hf
      refine v_getRN C 7 1 hb53 rfl nin_7 (ns_kd_lt hk_a1 (by decide)) hk_a1 (by decide) (by decide) rfl 49 tw_130 rfl 73 rfl (by decide +kernel) ?_
      refine v_iload C 4 2 rfl 75 rfl (by decide +kernel) ?_
      obtain ⟨hi54, hf⟩ := grd_e hf
      obtain ⟨b55, hb55, hf⟩ := drf_e hf
      obtain ⟨hk_b55, hf⟩ := grd_e hf
      refine v_aald C 12 (by decide) (ns_kd_lt hk_b53 (by decide)) hk_b53 hi54 hb55 76 rfl (by decide +kernel) ?_
      refine v_aload_n C 0 0 rfl 77 rfl (by decide +kernel) ?_
      refine v_aload_n C 1 1 rfl 78 rfl (by decide +kernel) ?_
      obtain ⟨b56, hb56, hf⟩ := drf_e hf
      obtain ⟨hk_b56, hf⟩ := grd_e hf
      refine v_getRN C 7 1 hb56 rfl nin_7 (ns_kd_lt hk_a1 (by decide)) hk_a1 (by decide) (by decide) rfl 49 tw_130 rfl 81 rfl (by decide +kernel) ?_
      refine v_iload C 4 2 rfl 83 rfl (by decide +kernel) ?_
      obtain ⟨hi57, hf⟩ := grd_e hf
      obtain ⟨b58, hb58, hf⟩ := drf_e hf
      obtain ⟨hk_b58, hf⟩ := grd_e hf
      refine v_aald C 12 (by decide) (ns_kd_lt hk_b56 (by decide)) hk_b56 hi57 hb58 84 rfl (by decide +kernel) ?_
      obtain ⟨r60, σ59, hcr60, hf⟩ := cl2_e hf
      refine v_cV C 4 rfl (ns_kd_lt hk_a0 (by decide)) hk_a0 (by decide) [.ref (G.1 + b58)] [.ref (G.1 + b55), .ref (G.1 + a0)] (c_StonePlan_helpersFor G l σ a0 b58 hcr60) 61 1 tw_830 tw_827 tw_829 ts_56 tw_7 hd_StonePlan_helpersFor rfl ⟨(Nat.le_of_ble_eq_true rfl), (Nat.le_of_ble_eq_true rfl)⟩ ⟨(Nat.le_of_ble_eq_true rfl), (Nat.le_of_ble_eq_true rfl)⟩ (Nat.le_of_ble_eq_true rfl) rfl 87 rfl (by decide +kernel) [.long r60, .ref (G.1 + b55), .ref (G.1 + a0)] rfl ?_
      obtain ⟨r62, σ61, hcr62, hf⟩ := cl2_e hf
      refine v_cV C 4 rfl (ns_kd_lt hk_a0 (by decide)) hk_a0 (by decide) [.ref (G.1 + b55), .long r60] [] (c_StonePlan_heedSeconds G l σ59 a0 b55 r60 hcr62) 80 2 tw_856 tw_853 tw_855 ts_61 tw_7 hd_StonePlan_heedSeconds rfl ⟨(Nat.le_of_ble_eq_true rfl), (Nat.le_of_ble_eq_true rfl)⟩ ⟨(Nat.le_of_ble_eq_true rfl), (Nat.le_of_ble_eq_true rfl)⟩ (Nat.le_of_ble_eq_true rfl) rfl 90 rfl (by decide +kernel) [] rfl ?_
      obtain ⟨z63, hz63, hf⟩ := bnd_e hf
      refine v_iinc C 4 (1) 2 z63 rfl (by rw [hz63]; rfl) [(4, .int z63), (0, .ref (G.1 + a0)), (1, .ref (G.1 + a1))] (by decide) rfl 93 rfl (by decide +kernel) ?_
      refine v_goto C 59 (by decide +kernel) ?_
      refine v_sub [1, 2, 0] rfl ?_
      exact ih σ61 a0 a1 z63 hk_a0 hk_a1 hf
theorem t_StonePlan_isPairEnough_16 (G : ns_G) (l : Launch) {p : Program} {e : Env} {s : State} {m : MethodId} {args : Array Value} {below : List Frame} {meth : Method} {c : Code} (C : ns_Cx G p s m args meth c prog_6_method_4_code "NinthStep$StonePlan" 5) (hr : meth.sig.returnType = (some .boolean)) {r : Int32} {σ' : ns_St}  : ∀ (f : Nat) (σ : ns_St) (a0 : Nat) (a1 : Nat) (x2 : Int64) (x4 : Int32) (hk_a0 : ns_kd a0 = 4) (hk_a1 : ns_kd a1 = 7), g_StonePlan_isPairEnough_16 f σ a0 a1 x2 x4 = some (r, σ') → VV G p l e { frames := 5, cells := 0, slots := 0, locals := 117 } s m args below meth c 5 0 0 (MQ below (ns_Qc G (some (.int r)) ns_N σ') args s 0 0 (ns_A G)) ns_N σ 16 [(0, .ref (G.1 + a0)), (1, .ref (G.1 + a1)), (2, .long x2), (4, .int x4)] [] := by
  intro f
  induction f with
  | zero =>
    intro σ a0 a1 x2 x4 hk_a0 hk_a1 hf
    cases hf
  | succ f ih =>
    intro σ a0 a1 x2 x4 hk_a0 hk_a1 hf
    rw [g_StonePlan_isPairEnough_16] at hf
    refine v_iload C 4 3 rfl 18 rfl (by decide +kernel) ?_
    refine v_bipush C (61) (61) (by decide) 20 rfl (by decide +kernel) ?_
    refine v_icmp_ge C 56 23 rfl (by decide +kernel) (fun h64 => ?_) (fun h64 => ?_)
    · have hf := ite2_t hf h64
      refine v_iconst C (0) (0) (by decide) 57 rfl (by decide +kernel) ?_
      refine v_istore C 4 [(4, .int (0 : Int32)), (0, .ref (G.1 + a0)), (1, .ref (G.1 + a1)), (2, .long x2)] (by decide) rfl 59 rfl (by decide +kernel) ?_
      refine v_sub [1, 2, 0] rfl ?_
      exact t_StonePlan_isPairEnough_59 G l C hr  ns_F σ a0 a1 (0 : Int32) hk_a0 hk_a1 hf
    · have hf := ite2_f hf h64
      refine v_aload_n C 0 0 rfl 24 rfl (by decide +kernel) ?_
      obtain ⟨b65, hb65, hf⟩ := drf_e hf
      obtain ⟨hk_b65, hf⟩ := grd_e hf
      refine v_getR C 4 1 hb65 rfl nin_4 (ns_kd_lt hk_a0 (by decide)) hk_a0 (by decide) (by decide) rfl 15 tw_221 rfl 27 rfl (by decide +kernel) ?_
      refine v_iload C 4 3 rfl 29 rfl (by decide +kernel) ?_
      refine v_lload_n C 2 2 rfl 30 rfl (by decide +kernel) ?_
      refine v_iload C 4 3 rfl 32 rfl (by decide +kernel) ?_
      obtain ⟨r67, σ66, hcr67, hf⟩ := cl2_e hf
      refine v_cSN C [.long x2, .int x4] [.int x4, .ref (G.1 + b65)] (c_N_isIn G l σ x2 x4 hcr67) 72 2 tw_455 tw_815 tw_454 tw_1 hd_N_isIn rfl ⟨(Nat.le_of_ble_eq_true rfl), (Nat.le_of_ble_eq_true rfl)⟩ ⟨(Nat.le_of_ble_eq_true rfl), (Nat.le_of_ble_eq_true rfl)⟩ (Nat.le_of_ble_eq_true rfl) rfl 35 rfl (by decide +kernel) [.int r67, .int x4, .ref (G.1 + b65)] rfl ?_
      refine v_if_eq C 48 38 rfl (by decide +kernel) (fun h68 => ?_) (fun h68 => ?_)
      · have hf := ite2_t hf h68
        refine v_lconst C 0 (0) (by decide) 49 rfl (by decide +kernel) ?_
        obtain ⟨hi69, hf⟩ := grd_e hf
        obtain ⟨σ70, hσ70, hf⟩ := bnd_e hf
        refine v_last C hσ70 (ns_kd_lt hk_b65 (by decide)) hk_b65 hi69 50 rfl (by decide +kernel) ?_
        obtain ⟨z71, hz71, hf⟩ := bnd_e hf
        refine v_iinc C 4 (1) 3 z71 rfl (by rw [hz71]; rfl) [(4, .int z71), (0, .ref (G.1 + a0)), (1, .ref (G.1 + a1)), (2, .long x2)] (by decide) rfl 53 rfl (by decide +kernel) ?_
        refine v_goto C 16 (by decide +kernel) ?_
        refine v_sub [1, 2, 3, 0] rfl ?_
        exact ih σ70 a0 a1 x2 z71 hk_a0 hk_a1 hf
      · have hf := ite2_f hf h68
        refine v_lload_n C 2 2 rfl 39 rfl (by decide +kernel) ?_
        refine v_iload C 4 3 rfl 41 rfl (by decide +kernel) ?_
        obtain ⟨r73, σ72, hcr73, hf⟩ := cl2_e hf
        refine v_cSN C [.int x4] [.long x2, .int x4, .ref (G.1 + b65)] (c_N_above G l σ66 x4 hcr73) 76 1 tw_406 tw_847 tw_405 tw_1 hd_N_above rfl ⟨(Nat.le_of_ble_eq_true rfl), (Nat.le_of_ble_eq_true rfl)⟩ ⟨(Nat.le_of_ble_eq_true rfl), (Nat.le_of_ble_eq_true rfl)⟩ (Nat.le_of_ble_eq_true rfl) rfl 44 rfl (by decide +kernel) [.long r73, .long x2, .int x4, .ref (G.1 + b65)] rfl ?_
        refine v_land C 45 rfl (by decide +kernel) ?_
        refine v_goto C 49 (by decide +kernel) ?_
        obtain ⟨hi74, hf⟩ := grd_e hf
        obtain ⟨σ75, hσ75, hf⟩ := bnd_e hf
        refine v_last C hσ75 (ns_kd_lt hk_b65 (by decide)) hk_b65 hi74 50 rfl (by decide +kernel) ?_
        obtain ⟨z76, hz76, hf⟩ := bnd_e hf
        refine v_iinc C 4 (1) 3 z76 rfl (by rw [hz76]; rfl) [(4, .int z76), (0, .ref (G.1 + a0)), (1, .ref (G.1 + a1)), (2, .long x2)] (by decide) rfl 53 rfl (by decide +kernel) ?_
        refine v_goto C 16 (by decide +kernel) ?_
        refine v_sub [1, 2, 3, 0] rfl ?_
        exact ih σ75 a0 a1 x2 z76 hk_a0 hk_a1 hf
theorem c_StonePlan_isPairEnough (G : ns_G) (l : Launch) (σ : ns_St) (a0 : Nat) (a1 : Nat) {r : Int32} {σ' : ns_St} (hf : g_StonePlan_isPairEnough σ a0 a1 = some (r, σ')) : ns_ok G l ⟨"NinthStep$StonePlan", "isPairEnough", "(LNinthStep$World;)Z"⟩ prog_6_method_4_code 5 (some .boolean) 5 117 0 0 [.ref (G.1 + a0), .ref (G.1 + a1)] ns_N σ (some (.int r)) ns_N σ' := by
  refine v_open (by decide) (Nat.le_of_ble_eq_true rfl) rfl ?_
  intro p e s m below meth c C hr _
  have C : ns_Cx G p s m _ meth c prog_6_method_4_code "NinthStep$StonePlan" 5 := C
  unfold g_StonePlan_isPairEnough at hf
  obtain ⟨hk_a0, hf⟩ := grd_e hf
  obtain ⟨hk_a1, hf⟩ := grd_e hf
  refine v_aload_n C 0 0 rfl 1 rfl (by decide +kernel) ?_
  refine v_aload_n C 1 1 rfl 2 rfl (by decide +kernel) ?_
  obtain ⟨b77, hb77, hf⟩ := drf_e hf
  obtain ⟨hk_b77, hf⟩ := grd_e hf
  refine v_getRN C 7 0 hb77 rfl nin_7 (ns_kd_lt hk_a1 (by decide)) hk_a1 (by decide) (by decide) rfl 38 tw_126 rfl 5 rfl (by decide +kernel) ?_
  obtain ⟨σ78, hσ78, hf⟩ := bnd_e hf
  refine v_putR C 4 7 hσ78 rfl nin_4 ny_4 nty_4 nnm_4 (ns_kd_lt hk_a0 (by decide)) hk_a0 (by decide) (by decide) rfl rfl rfl rfl 44 tw_227 rfl 8 rfl (by decide +kernel) ?_
  refine v_aload_n C 0 0 rfl 9 rfl (by decide +kernel) ?_
  obtain ⟨r80, σ79, hcr80, hf⟩ := cl2_e hf
  refine v_cV C 4 rfl (ns_kd_lt hk_a0 (by decide)) hk_a0 (by decide) [] [] (c_StonePlan_freePlaces G l σ78 a0 hcr80) 57 0 tw_823 tw_820 tw_822 ts_55 tw_7 hd_StonePlan_freePlaces rfl ⟨(Nat.le_of_ble_eq_true rfl), (Nat.le_of_ble_eq_true rfl)⟩ ⟨(Nat.le_of_ble_eq_true rfl), (Nat.le_of_ble_eq_true rfl)⟩ (Nat.le_of_ble_eq_true rfl) rfl 12 rfl (by decide +kernel) [.long r80] rfl ?_
  refine v_lstore_n C 2 [(2, .long r80), (0, .ref (G.1 + a0)), (1, .ref (G.1 + a1))] (by decide) rfl 13 rfl (by decide +kernel) ?_
  refine v_iconst C (0) (0) (by decide) 14 rfl (by decide +kernel) ?_
  refine v_istore C 4 [(4, .int (0 : Int32)), (2, .long r80), (0, .ref (G.1 + a0)), (1, .ref (G.1 + a1))] (by decide) rfl 16 rfl (by decide +kernel) ?_
  refine v_sub [2, 3, 1, 0] rfl ?_
  exact t_StonePlan_isPairEnough_16 G l C hr  ns_F σ79 a0 a1 r80 (0 : Int32) hk_a0 hk_a1 hf
theorem hd_StonePlan_isPairEnough : (⟨"NinthStep$StonePlan", "isPairEnough", "(LNinthStep$World;)Z"⟩ : MethodName).cls = "NinthStep$StonePlan" ∧ (⟨"NinthStep$StonePlan", "isPairEnough", "(LNinthStep$World;)Z"⟩ : MethodName).cls ≠ "java/lang/invoke/MethodHandle" ∧ (⟨"NinthStep$StonePlan", "isPairEnough", "(LNinthStep$World;)Z"⟩ : MethodName).cls ≠ "java/lang/invoke/VarHandle" ∧ (parseMethodDescriptor (⟨"NinthStep$StonePlan", "isPairEnough", "(LNinthStep$World;)Z"⟩ : MethodName).desc).map (fun d => d.parameters.length) = some 1 := by decide +kernel
def g_N_stones_72  (σ : ns_St) (a0 : Nat) (x1 : Int32) (x2 : Int32) : Option (Int32 × ns_St) := ite2 (x2 = (-1 : Int32)) (some (x2, σ)) (ite2 (x1 = (-1 : Int32)) (some (x2, σ)) (ite2 (x1 < x2) (ite2 (x1 = 0) (drf (σ.2.2 a0 6) fun b34 => grd (ns_kd b34 = 4) <| some ((σ.1 b34 8), σ)) (drf (σ.2.2 a0 6) fun b33 => grd (ns_kd b33 = 4) <| some ((σ.1 b33 9), σ))) (cl2 (g_N_refuse σ a0 (-5 : Int32)) fun r36 σ35 => some (r36, σ35))))
def g_N_stones (σ : ns_St) (a0 : Nat) (x1 : Int32) : Option (Int32 × ns_St) := grd (ns_kd a0 = 8) <| cl2 (g_N_isWithin σ x1 (-1 : Int32) (1 : Int32)) fun r38 σ37 => ite2 (r38 = 0) (cl2 (g_N_refuse σ37 a0 (-2 : Int32)) fun r56 σ55 => some (r56, σ55)) (drf (σ37.2.2 a0 6) fun b40 => grd (ns_kd b40 = 4) <| drf (σ37.2.2 a0 0) fun b41 => grd (ns_kd b41 = 7) <| cl2 (g_StonePlan_isAnyNeeded σ37 b40 b41) fun r43 σ42 => ite2 (r43 = 0) (g_N_stones_72 σ42 a0 x1 (0 : Int32)) (drf (σ42.2.2 a0 6) fun b45 => grd (ns_kd b45 = 4) <| drf (σ42.2.2 a0 0) fun b46 => grd (ns_kd b46 = 7) <| cl2 (g_StonePlan_isOneEnough σ42 b45 b46) fun r48 σ47 => ite2 (r48 = 0) (drf (σ47.2.2 a0 6) fun b50 => grd (ns_kd b50 = 4) <| drf (σ47.2.2 a0 0) fun b51 => grd (ns_kd b51 = 7) <| cl2 (g_StonePlan_isPairEnough σ47 b50 b51) fun r53 σ52 => ite2 (r53 = 0) (g_N_stones_72 σ52 a0 x1 (-1 : Int32)) (g_N_stones_72 σ52 a0 x1 (2 : Int32))) (g_N_stones_72 σ47 a0 x1 (1 : Int32))))
theorem t_N_stones_72 (G : ns_G) (l : Launch) {p : Program} {e : Env} {s : State} {m : MethodId} {args : Array Value} {below : List Frame} {meth : Method} {c : Code} (C : ns_Cx G p s m args meth c prog_1_method_33_code "NinthStep" 3) (hr : meth.sig.returnType = (some .int)) {r : Int32} {σ' : ns_St}  (σ : ns_St) (a0 : Nat) (x1 : Int32) (x2 : Int32) (hk_a0 : ns_kd a0 = 8) (hf : g_N_stones_72 σ a0 x1 x2 = some (r, σ')) : VV G p l e { frames := 6, cells := 0, slots := 0, locals := 141 } s m args below meth c 3 0 0 (MQ below (ns_Qc G (some (.int r)) ns_N σ') args s 0 0 (ns_A G)) ns_N σ 72 [(0, .ref (G.1 + a0)), (1, .int x1), (2, .int x2)] [] := by
  unfold g_N_stones_72 at hf
  refine v_iload_n C 2 2 rfl 73 rfl (by decide +kernel) ?_
  refine v_iconst C (-1) (-1) (by decide) 74 rfl (by decide +kernel) ?_
  refine v_icmp_eq C 82 77 rfl (by decide +kernel) (fun h29 => ?_) (fun h29 => ?_)
  · have hf := ite2_t hf h29
    refine v_iload_n C 2 2 rfl 83 rfl (by decide +kernel) ?_
    obtain ⟨rfl, rfl⟩ := ret_e hf
    exact v_iret C hr (by decide +kernel)
  · have hf := ite2_f hf h29
    refine v_iload_n C 1 1 rfl 78 rfl (by decide +kernel) ?_
    refine v_iconst C (-1) (-1) (by decide) 79 rfl (by decide +kernel) ?_
    refine v_icmp_ne C 84 82 rfl (by decide +kernel) (fun h30 => ?_) (fun h30 => ?_)
    · have hf := ite2_f hf h30
      refine v_iload_n C 1 1 rfl 85 rfl (by decide +kernel) ?_
      refine v_iload_n C 2 2 rfl 86 rfl (by decide +kernel) ?_
      refine v_icmp_lt C 96 89 rfl (by decide +kernel) (fun h31 => ?_) (fun h31 => ?_)
      · have hf := ite2_t hf h31
        refine v_iload_n C 1 1 rfl 97 rfl (by decide +kernel) ?_
        refine v_if_ne C 110 100 rfl (by decide +kernel) (fun h32 => ?_) (fun h32 => ?_)
        · have hf := ite2_f hf h32
          refine v_aload_n C 0 0 rfl 111 rfl (by decide +kernel) ?_
          obtain ⟨b33, hb33, hf⟩ := drf_e hf
          obtain ⟨hk_b33, hf⟩ := grd_e hf
          refine v_getR C 8 6 hb33 rfl nin_8 (ns_kd_lt hk_a0 (by decide)) hk_a0 (by decide) (by decide) rfl 45 tw_293 rfl 114 rfl (by decide +kernel) ?_
          refine v_getIN C 4 9 rfl nin_4 (ns_kd_lt hk_b33 (by decide)) hk_b33 (by decide) (by decide) rfl 296 tw_231 rfl 117 rfl (by decide +kernel) ?_
          obtain ⟨rfl, rfl⟩ := ret_e hf
          exact v_iret C hr (by decide +kernel)
        · have hf := ite2_t hf h32
          refine v_aload_n C 0 0 rfl 101 rfl (by decide +kernel) ?_
          obtain ⟨b34, hb34, hf⟩ := drf_e hf
          obtain ⟨hk_b34, hf⟩ := grd_e hf
          refine v_getR C 8 6 hb34 rfl nin_8 (ns_kd_lt hk_a0 (by decide)) hk_a0 (by decide) (by decide) rfl 45 tw_293 rfl 104 rfl (by decide +kernel) ?_
          refine v_getIN C 4 8 rfl nin_4 (ns_kd_lt hk_b34 (by decide)) hk_b34 (by decide) (by decide) rfl 293 tw_229 rfl 107 rfl (by decide +kernel) ?_
          refine v_goto C 117 (by decide +kernel) ?_
          obtain ⟨rfl, rfl⟩ := ret_e hf
          exact v_iret C hr (by decide +kernel)
      · have hf := ite2_f hf h31
        refine v_aload_n C 0 0 rfl 90 rfl (by decide +kernel) ?_
        refine v_bipush C (-5) (-5) (by decide) 92 rfl (by decide +kernel) ?_
        obtain ⟨r36, σ35, hcr36, hf⟩ := cl2_e hf
        refine v_cV C 8 rfl (ns_kd_lt hk_a0 (by decide)) hk_a0 (by decide) [.int (-5 : Int32)] [] (c_N_refuse G l σ a0 (-5 : Int32) hcr36) 79 1 tw_338 tw_335 tw_337 ts_1 tw_1 hd_N_refuse rfl ⟨(Nat.le_of_ble_eq_true rfl), (Nat.le_of_ble_eq_true rfl)⟩ ⟨(Nat.le_of_ble_eq_true rfl), (Nat.le_of_ble_eq_true rfl)⟩ (Nat.le_of_ble_eq_true rfl) rfl 95 rfl (by decide +kernel) [.int r36] rfl ?_
        obtain ⟨rfl, rfl⟩ := ret_e hf
        exact v_iret C hr (by decide +kernel)
    · have hf := ite2_t hf h30
      refine v_iload_n C 2 2 rfl 83 rfl (by decide +kernel) ?_
      obtain ⟨rfl, rfl⟩ := ret_e hf
      exact v_iret C hr (by decide +kernel)
theorem c_N_stones (G : ns_G) (l : Launch) (σ : ns_St) (a0 : Nat) (x1 : Int32) {r : Int32} {σ' : ns_St} (hf : g_N_stones σ a0 x1 = some (r, σ')) : ns_ok G l ⟨"NinthStep", "stones", "(I)I"⟩ prog_1_method_33_code 3 (some .int) 6 141 0 0 [.ref (G.1 + a0), .int x1] ns_N σ (some (.int r)) ns_N σ' := by
  refine v_open (by decide) (Nat.le_of_ble_eq_true rfl) rfl ?_
  intro p e s m below meth c C hr _
  have C : ns_Cx G p s m _ meth c prog_1_method_33_code "NinthStep" 3 := C
  unfold g_N_stones at hf
  obtain ⟨hk_a0, hf⟩ := grd_e hf
  refine v_iload_n C 1 1 rfl 1 rfl (by decide +kernel) ?_
  refine v_iconst C (-1) (-1) (by decide) 2 rfl (by decide +kernel) ?_
  refine v_iconst C (1) (1) (by decide) 3 rfl (by decide +kernel) ?_
  obtain ⟨r38, σ37, hcr38, hf⟩ := cl2_e hf
  refine v_cS C [.int x1, .int (-1 : Int32), .int (1 : Int32)] [] (c_N_isWithin G l σ x1 (-1 : Int32) (1 : Int32) hcr38) 75 3 tw_334 tw_332 tw_333 tw_1 hd_N_isWithin rfl ⟨(Nat.le_of_ble_eq_true rfl), (Nat.le_of_ble_eq_true rfl)⟩ ⟨(Nat.le_of_ble_eq_true rfl), (Nat.le_of_ble_eq_true rfl)⟩ (Nat.le_of_ble_eq_true rfl) rfl 6 rfl (by decide +kernel) [.int r38] rfl ?_
  refine v_if_ne C 16 9 rfl (by decide +kernel) (fun h39 => ?_) (fun h39 => ?_)
  · have hf := ite2_f hf h39
    refine v_iconst C (-1) (-1) (by decide) 17 rfl (by decide +kernel) ?_
    refine v_istore_n C 2 [(2, .int (-1 : Int32)), (0, .ref (G.1 + a0)), (1, .int x1)] (by decide) rfl 18 rfl (by decide +kernel) ?_
    refine v_aload_n C 0 1 rfl 19 rfl (by decide +kernel) ?_
    obtain ⟨b40, hb40, hf⟩ := drf_e hf
    obtain ⟨hk_b40, hf⟩ := grd_e hf
    refine v_getR C 8 6 hb40 rfl nin_8 (ns_kd_lt hk_a0 (by decide)) hk_a0 (by decide) (by decide) rfl 45 tw_293 rfl 22 rfl (by decide +kernel) ?_
    refine v_aload_n C 0 1 rfl 23 rfl (by decide +kernel) ?_
    obtain ⟨b41, hb41, hf⟩ := drf_e hf
    obtain ⟨hk_b41, hf⟩ := grd_e hf
    refine v_getR C 8 0 hb41 rfl nin_8 (ns_kd_lt hk_a0 (by decide)) hk_a0 (by decide) (by decide) rfl 12 tw_287 rfl 26 rfl (by decide +kernel) ?_
    obtain ⟨r43, σ42, hcr43, hf⟩ := cl2_e hf
    refine v_cVN C 4 rfl (ns_kd_lt hk_b40 (by decide)) hk_b40 (by decide) [.ref (G.1 + b41)] [] (c_StonePlan_isAnyNeeded G l σ37 b40 b41 hcr43) 283 1 tw_804 tw_801 tw_803 ts_51 tw_7 hd_StonePlan_isAnyNeeded rfl ⟨(Nat.le_of_ble_eq_true rfl), (Nat.le_of_ble_eq_true rfl)⟩ ⟨(Nat.le_of_ble_eq_true rfl), (Nat.le_of_ble_eq_true rfl)⟩ (Nat.le_of_ble_eq_true rfl) rfl 29 rfl (by decide +kernel) [.int r43] rfl ?_
    refine v_if_ne C 37 32 rfl (by decide +kernel) (fun h44 => ?_) (fun h44 => ?_)
    · have hf := ite2_f hf h44
      refine v_aload_n C 0 1 rfl 38 rfl (by decide +kernel) ?_
      obtain ⟨b45, hb45, hf⟩ := drf_e hf
      obtain ⟨hk_b45, hf⟩ := grd_e hf
      refine v_getR C 8 6 hb45 rfl nin_8 (ns_kd_lt hk_a0 (by decide)) hk_a0 (by decide) (by decide) rfl 45 tw_293 rfl 41 rfl (by decide +kernel) ?_
      refine v_aload_n C 0 1 rfl 42 rfl (by decide +kernel) ?_
      obtain ⟨b46, hb46, hf⟩ := drf_e hf
      obtain ⟨hk_b46, hf⟩ := grd_e hf
      refine v_getR C 8 0 hb46 rfl nin_8 (ns_kd_lt hk_a0 (by decide)) hk_a0 (by decide) (by decide) rfl 12 tw_287 rfl 45 rfl (by decide +kernel) ?_
      obtain ⟨r48, σ47, hcr48, hf⟩ := cl2_e hf
      refine v_cVN C 4 rfl (ns_kd_lt hk_b45 (by decide)) hk_b45 (by decide) [.ref (G.1 + b46)] [] (c_StonePlan_isOneEnough G l σ42 b45 b46 hcr48) 287 1 tw_819 tw_816 tw_818 ts_54 tw_7 hd_StonePlan_isOneEnough rfl ⟨(Nat.le_of_ble_eq_true rfl), (Nat.le_of_ble_eq_true rfl)⟩ ⟨(Nat.le_of_ble_eq_true rfl), (Nat.le_of_ble_eq_true rfl)⟩ (Nat.le_of_ble_eq_true rfl) rfl 48 rfl (by decide +kernel) [.int r48] rfl ?_
      refine v_if_eq C 56 51 rfl (by decide +kernel) (fun h49 => ?_) (fun h49 => ?_)
      · have hf := ite2_t hf h49
        refine v_aload_n C 0 1 rfl 57 rfl (by decide +kernel) ?_
        obtain ⟨b50, hb50, hf⟩ := drf_e hf
        obtain ⟨hk_b50, hf⟩ := grd_e hf
        refine v_getR C 8 6 hb50 rfl nin_8 (ns_kd_lt hk_a0 (by decide)) hk_a0 (by decide) (by decide) rfl 45 tw_293 rfl 60 rfl (by decide +kernel) ?_
        refine v_aload_n C 0 1 rfl 61 rfl (by decide +kernel) ?_
        obtain ⟨b51, hb51, hf⟩ := drf_e hf
        obtain ⟨hk_b51, hf⟩ := grd_e hf
        refine v_getR C 8 0 hb51 rfl nin_8 (ns_kd_lt hk_a0 (by decide)) hk_a0 (by decide) (by decide) rfl 12 tw_287 rfl 64 rfl (by decide +kernel) ?_
        obtain ⟨r53, σ52, hcr53, hf⟩ := cl2_e hf
        refine v_cVN C 4 rfl (ns_kd_lt hk_b50 (by decide)) hk_b50 (by decide) [.ref (G.1 + b51)] [] (c_StonePlan_isPairEnough G l σ47 b50 b51 hcr53) 290 1 tw_852 tw_849 tw_851 ts_60 tw_7 hd_StonePlan_isPairEnough rfl ⟨(Nat.le_of_ble_eq_true rfl), (Nat.le_of_ble_eq_true rfl)⟩ ⟨(Nat.le_of_ble_eq_true rfl), (Nat.le_of_ble_eq_true rfl)⟩ (Nat.le_of_ble_eq_true rfl) rfl 67 rfl (by decide +kernel) [.int r53] rfl ?_
        refine v_if_eq C 72 70 rfl (by decide +kernel) (fun h54 => ?_) (fun h54 => ?_)
        · have hf := ite2_t hf h54
          refine v_sub [1, 2, 0] rfl ?_
          exact t_N_stones_72 G l C hr  σ52 a0 x1 (-1 : Int32) hk_a0 hf
        · have hf := ite2_f hf h54
          refine v_iconst C (2) (2) (by decide) 71 rfl (by decide +kernel) ?_
          refine v_istore_n C 2 [(2, .int (2 : Int32)), (0, .ref (G.1 + a0)), (1, .int x1)] (by decide) rfl 72 rfl (by decide +kernel) ?_
          refine v_sub [1, 2, 0] rfl ?_
          exact t_N_stones_72 G l C hr  σ52 a0 x1 (2 : Int32) hk_a0 hf
      · have hf := ite2_f hf h49
        refine v_iconst C (1) (1) (by decide) 52 rfl (by decide +kernel) ?_
        refine v_istore_n C 2 [(2, .int (1 : Int32)), (0, .ref (G.1 + a0)), (1, .int x1)] (by decide) rfl 53 rfl (by decide +kernel) ?_
        refine v_goto C 72 (by decide +kernel) ?_
        refine v_sub [1, 2, 0] rfl ?_
        exact t_N_stones_72 G l C hr  σ47 a0 x1 (1 : Int32) hk_a0 hf
    · have hf := ite2_t hf h44
      refine v_iconst C (0) (0) (by decide) 33 rfl (by decide +kernel) ?_
      refine v_istore_n C 2 [(2, .int (0 : Int32)), (0, .ref (G.1 + a0)), (1, .int x1)] (by decide) rfl 34 rfl (by decide +kernel) ?_
      refine v_goto C 72 (by decide +kernel) ?_
      refine v_sub [1, 2, 0] rfl ?_
      exact t_N_stones_72 G l C hr  σ42 a0 x1 (0 : Int32) hk_a0 hf
  · have hf := ite2_t hf h39
    refine v_aload_n C 0 0 rfl 10 rfl (by decide +kernel) ?_
    refine v_bipush C (-2) (-2) (by decide) 12 rfl (by decide +kernel) ?_
    obtain ⟨r56, σ55, hcr56, hf⟩ := cl2_e hf
    refine v_cV C 8 rfl (ns_kd_lt hk_a0 (by decide)) hk_a0 (by decide) [.int (-2 : Int32)] [] (c_N_refuse G l σ37 a0 (-2 : Int32) hcr56) 79 1 tw_338 tw_335 tw_337 ts_1 tw_1 hd_N_refuse rfl ⟨(Nat.le_of_ble_eq_true rfl), (Nat.le_of_ble_eq_true rfl)⟩ ⟨(Nat.le_of_ble_eq_true rfl), (Nat.le_of_ble_eq_true rfl)⟩ (Nat.le_of_ble_eq_true rfl) rfl 15 rfl (by decide +kernel) [.int r56] rfl ?_
    obtain ⟨rfl, rfl⟩ := ret_e hf
    exact v_iret C hr (by decide +kernel)
theorem hd_N_stones : (⟨"NinthStep", "stones", "(I)I"⟩ : MethodName).cls = "NinthStep" ∧ (⟨"NinthStep", "stones", "(I)I"⟩ : MethodName).cls ≠ "java/lang/invoke/MethodHandle" ∧ (⟨"NinthStep", "stones", "(I)I"⟩ : MethodName).cls ≠ "java/lang/invoke/VarHandle" ∧ (parseMethodDescriptor (⟨"NinthStep", "stones", "(I)I"⟩ : MethodName).desc).map (fun d => d.parameters.length) = some 1 := by decide +kernel
def g_N_placesTold_18  : Nat → ns_St → Nat → Nat → Int32 → Int64 → Int64 → Int32 → Option (Int64 × ns_St)
  | 0, _, _, _, _, _, _, _ => none
  | f + 1, σ, a0, a1, x2, x3, x5, x7 => ite2 (x2 ≤ x7) (some (x3, σ)) (cl2 (g_Shelf_cellAt σ a1 x7) fun r15 σ14 => ite2 ((lg_cmp r15 x5) ≤ 0) (some ((0 : Int64), σ14)) (drf (σ14.2.2 a0 0) fun b17 => grd (ns_kd b17 = 7) <| drf (σ14.2.2 b17 0) fun b18 => grd (ns_kd b18 = 1) <| ite2 ((lg_cmp r15 ((σ14.1 b18 0).toInt64)) ≤ 0) (cl2 (g_N_bit σ14 (r15.toInt32)) fun r21 σ20 => bnd (x3 ||| r21) fun z22 => bnd (x7 + 1) fun z23 => (g_N_placesTold_18 f) σ20 a0 a1 x2 z22 r15 z23) (some ((0 : Int64), σ14))))
def g_N_placesTold (σ : ns_St) (a0 : Nat) (a1 : Nat) (x2 : Int32) : Option (Int64 × ns_St) := grd (ns_kd a0 = 8) <| grd (ns_kd a1 = 3) <| ite2 (x2 ≤ (σ.1 a1 1)) (g_N_placesTold_18 ns_F σ a0 a1 x2 (0 : Int64) (0 : Int64) (0 : Int32)) (some ((0 : Int64), σ))
theorem t_N_placesTold_18 (G : ns_G) (l : Launch) {p : Program} {e : Env} {s : State} {m : MethodId} {args : Array Value} {below : List Frame} {meth : Method} {c : Code} (C : ns_Cx G p s m args meth c prog_1_method_63_code "NinthStep" 10) (hr : meth.sig.returnType = (some .long)) {r : Int64} {σ' : ns_St}  : ∀ (f : Nat) (σ : ns_St) (a0 : Nat) (a1 : Nat) (x2 : Int32) (x3 : Int64) (x5 : Int64) (x7 : Int32) (hk_a0 : ns_kd a0 = 8) (hk_a1 : ns_kd a1 = 3), g_N_placesTold_18 f σ a0 a1 x2 x3 x5 x7 = some (r, σ') → VV G p l e { frames := 2, cells := 0, slots := 0, locals := 41 } s m args below meth c 10 0 0 (MQ below (ns_Qc G (some (.long r)) ns_N σ') args s 0 0 (ns_A G)) ns_N σ 18 [(0, .ref (G.1 + a0)), (1, .ref (G.1 + a1)), (2, .int x2), (3, .long x3), (5, .long x5), (7, .int x7)] [] := by
  intro f
  induction f with
  | zero =>
    intro σ a0 a1 x2 x3 x5 x7 hk_a0 hk_a1 hf
    cases hf
  | succ f ih =>
    intro σ a0 a1 x2 x3 x5 x7 hk_a0 hk_a1 hf
    rw [g_N_placesTold_18] at hf
    refine v_iload C 7 5 rfl 20 rfl (by decide +kernel) ?_
    refine v_iload_n C 2 2 rfl 21 rfl (by decide +kernel) ?_
    refine v_icmp_ge C 78 24 rfl (by decide +kernel) (fun h13 => ?_) (fun h13 => ?_)
    · have hf := ite2_t hf h13
      refine v_lload_n C 3 3 rfl 79 rfl (by decide +kernel) ?_
      obtain ⟨rfl, rfl⟩ := ret_e hf
      exact v_lret C hr (by decide +kernel)
    · have hf := ite2_f hf h13
      refine v_aload_n C 1 1 rfl 25 rfl (by decide +kernel) ?_
      refine v_iload C 7 5 rfl 27 rfl (by decide +kernel) ?_
      obtain ⟨r15, σ14, hcr15, hf⟩ := cl2_e hf
      refine v_cVN C 3 rfl (ns_kd_lt hk_a1 (by decide)) hk_a1 (by decide) [.int x7] [] (c_Shelf_cellAt G l σ a1 x7 hcr15) 113 1 tw_377 tw_374 tw_376 ts_6 tw_9 hd_Shelf_cellAt rfl ⟨(Nat.le_of_ble_eq_true rfl), (Nat.le_of_ble_eq_true rfl)⟩ ⟨(Nat.le_of_ble_eq_true rfl), (Nat.le_of_ble_eq_true rfl)⟩ (Nat.le_of_ble_eq_true rfl) rfl 30 rfl (by decide +kernel) [.long r15] rfl ?_
      refine v_lstore C 8 [(8, .long r15), (0, .ref (G.1 + a0)), (1, .ref (G.1 + a1)), (2, .int x2), (3, .long x3), (5, .long x5), (7, .int x7)] (by decide) rfl 32 rfl (by decide +kernel) ?_
      refine v_lload C 8 0 rfl 34 rfl (by decide +kernel) ?_
      refine v_lload C 5 5 rfl 36 rfl (by decide +kernel) ?_
      refine v_lcmp C 37 rfl (by decide +kernel) ?_
      refine v_if_le C 57 40 rfl (by decide +kernel) (fun h16 => ?_) (fun h16 => ?_)
      · have hf := ite2_t hf h16
        refine v_lconst C 0 (0) (by decide) 58 rfl (by decide +kernel) ?_
        obtain ⟨rfl, rfl⟩ := ret_e hf
        exact v_lret C hr (by decide +kernel)
      · have hf := ite2_f hf h16
        refine v_lload C 8 0 rfl 42 rfl (by decide +kernel) ?_
        refine v_aload_n C 0 1 rfl 43 rfl (by decide +kernel) ?_
        obtain ⟨b17, hb17, hf⟩ := drf_e hf
        obtain ⟨hk_b17, hf⟩ := grd_e hf
        refine v_getR C 8 0 hb17 rfl nin_8 (ns_kd_lt hk_a0 (by decide)) hk_a0 (by decide) (by decide) rfl 12 tw_287 rfl 46 rfl (by decide +kernel) ?_
        obtain ⟨b18, hb18, hf⟩ := drf_e hf
        obtain ⟨hk_b18, hf⟩ := grd_e hf
        refine v_getRN C 7 0 hb18 rfl nin_7 (ns_kd_lt hk_b17 (by decide)) hk_b17 (by decide) (by decide) rfl 138 tw_128 rfl 49 rfl (by decide +kernel) ?_
        refine v_getIN C 1 0 rfl nin_1 (ns_kd_lt hk_b18 (by decide)) hk_b18 (by decide) (by decide) rfl 147 tw_45 rfl 52 rfl (by decide +kernel) ?_
        refine v_i2l C 53 rfl (by decide +kernel) ?_
        refine v_lcmp C 54 rfl (by decide +kernel) ?_
        refine v_if_le C 59 57 rfl (by decide +kernel) (fun h19 => ?_) (fun h19 => ?_)
        · have hf := ite2_t hf h19
          refine v_lload_n C 3 4 rfl 60 rfl (by decide +kernel) ?_
          refine v_lload C 8 0 rfl 62 rfl (by decide +kernel) ?_
          refine v_l2i C 63 rfl (by decide +kernel) ?_
          obtain ⟨r21, σ20, hcr21, hf⟩ := cl2_e hf
          refine v_cS C [.int (r15.toInt32)] [.long x3] (c_N_bit G l σ14 (r15.toInt32) hcr21) 361 1 tw_468 tw_664 tw_467 tw_1 hd_N_bit rfl ⟨(Nat.le_of_ble_eq_true rfl), (Nat.le_of_ble_eq_true rfl)⟩ ⟨(Nat.le_of_ble_eq_true rfl), (Nat.le_of_ble_eq_true rfl)⟩ (Nat.le_of_ble_eq_true rfl) rfl 66 rfl (by decide +kernel) [.long r21, .long x3] rfl ?_
          refine v_lor C 67 rfl (by decide +kernel) ?_
          obtain ⟨z22, hz22, hf⟩ := bnd_e hf
          refine v_nmJ hz22 ?_
          refine v_lstore_n C 3 [(3, .long z22), (8, .long r15), (0, .ref (G.1 + a0)), (1, .ref (G.1 + a1)), (2, .int x2), (5, .long x5), (7, .int x7)] (by decide) rfl 68 rfl (by decide +kernel) ?_
          refine v_lload C 8 1 rfl 70 rfl (by decide +kernel) ?_
          refine v_lstore C 5 [(5, .long r15), (3, .long z22), (8, .long r15), (0, .ref (G.1 + a0)), (1, .ref (G.1 + a1)), (2, .int x2), (7, .int x7)] (by decide) rfl 72 rfl (by decide +kernel) ?_
          obtain ⟨z23, hz23, hf⟩ := bnd_e hf
          refine v_iinc C 7 (1) 6 z23 rfl (by rw [hz23]; rfl) [(7, .int z23), (5, .long r15), (3, .long z22), (8, .long r15), (0, .ref (G.1 + a0)), (1, .ref (G.1 + a1)), (2, .int x2)] (by decide) rfl 75 rfl (by decide +kernel) ?_
          refine v_goto C 18 (by decide +kernel) ?_
          refine v_sub [4, 5, 6, 2, 1, 0] rfl ?_
          exact ih σ20 a0 a1 x2 z22 r15 z23 hk_a0 hk_a1 hf
        · have hf := ite2_f hf h19
          refine v_lconst C 0 (0) (by decide) 58 rfl (by decide +kernel) ?_
          obtain ⟨rfl, rfl⟩ := ret_e hf
          exact v_lret C hr (by decide +kernel)
theorem c_N_placesTold (G : ns_G) (l : Launch) (σ : ns_St) (a0 : Nat) (a1 : Nat) (x2 : Int32) {r : Int64} {σ' : ns_St} (hf : g_N_placesTold σ a0 a1 x2 = some (r, σ')) : ns_ok G l ⟨"NinthStep", "placesTold", "(LNinthStep$Shelf;I)J"⟩ prog_1_method_63_code 10 (some .long) 2 41 0 0 [.ref (G.1 + a0), .ref (G.1 + a1), .int x2] ns_N σ (some (.long r)) ns_N σ' := by
  refine v_open (by decide) (Nat.le_of_ble_eq_true rfl) rfl ?_
  intro p e s m below meth c C hr _
  have C : ns_Cx G p s m _ meth c prog_1_method_63_code "NinthStep" 10 := C
  unfold g_N_placesTold at hf
  obtain ⟨hk_a0, hf⟩ := grd_e hf
  obtain ⟨hk_a1, hf⟩ := grd_e hf
  refine v_aload_n C 1 1 rfl 1 rfl (by decide +kernel) ?_
  refine v_getIN C 3 1 rfl nin_3 (ns_kd_lt hk_a1 (by decide)) hk_a1 (by decide) (by decide) rfl 91 tw_277 rfl 4 rfl (by decide +kernel) ?_
  refine v_iload_n C 2 2 rfl 5 rfl (by decide +kernel) ?_
  refine v_icmp_ge C 10 8 rfl (by decide +kernel) (fun h24 => ?_) (fun h24 => ?_)
  · have hf := ite2_t hf h24
    refine v_lconst C 0 (0) (by decide) 11 rfl (by decide +kernel) ?_
    refine v_lstore_n C 3 [(3, .long (0 : Int64)), (0, .ref (G.1 + a0)), (1, .ref (G.1 + a1)), (2, .int x2)] (by decide) rfl 12 rfl (by decide +kernel) ?_
    refine v_lconst C 0 (0) (by decide) 13 rfl (by decide +kernel) ?_
    refine v_lstore C 5 [(5, .long (0 : Int64)), (3, .long (0 : Int64)), (0, .ref (G.1 + a0)), (1, .ref (G.1 + a1)), (2, .int x2)] (by decide) rfl 15 rfl (by decide +kernel) ?_
    refine v_iconst C (0) (0) (by decide) 16 rfl (by decide +kernel) ?_
    refine v_istore C 7 [(7, .int (0 : Int32)), (5, .long (0 : Int64)), (3, .long (0 : Int64)), (0, .ref (G.1 + a0)), (1, .ref (G.1 + a1)), (2, .int x2)] (by decide) rfl 18 rfl (by decide +kernel) ?_
    refine v_sub [3, 4, 5, 2, 1, 0] rfl ?_
    exact t_N_placesTold_18 G l C hr  ns_F σ a0 a1 x2 (0 : Int64) (0 : Int64) (0 : Int32) hk_a0 hk_a1 hf
  · have hf := ite2_f hf h24
    refine v_lconst C 0 (0) (by decide) 9 rfl (by decide +kernel) ?_
    obtain ⟨rfl, rfl⟩ := ret_e hf
    exact v_lret C hr (by decide +kernel)
theorem hd_N_placesTold : (⟨"NinthStep", "placesTold", "(LNinthStep$Shelf;I)J"⟩ : MethodName).cls = "NinthStep" ∧ (⟨"NinthStep", "placesTold", "(LNinthStep$Shelf;I)J"⟩ : MethodName).cls ≠ "java/lang/invoke/MethodHandle" ∧ (⟨"NinthStep", "placesTold", "(LNinthStep$Shelf;I)J"⟩ : MethodName).cls ≠ "java/lang/invoke/VarHandle" ∧ (parseMethodDescriptor (⟨"NinthStep", "placesTold", "(LNinthStep$Shelf;I)J"⟩ : MethodName).desc).map (fun d => d.parameters.length) = some 2 := by decide +kernel
def g_N_wouldBeSeen_27  : Nat → ns_St → Nat → Int64 → Int32 → Int32 → Option (Int32 × ns_St)
  | 0, _, _, _, _, _ => none
  | f + 1, σ, a0, x3, x5, x6 => ite2 (x5 < x6) (some ((1 : Int32), σ)) (drf (σ.2.2 a0 8) fun b19 => grd (ns_kd b19 = 2) <| drf (σ.2.2 a0 0) fun b20 => grd (ns_kd b20 = 7) <| drf (σ.2.2 b20 0) fun b21 => grd (ns_kd b21 = 1) <| cl2 (g_Mule_makeStep σ b19 b21 (0 : Int32)) fun r23 σ22 => cl2 (g_N_isIn σ22 x3 x6) fun r25 σ24 => ite2 (r23 = r25) (bnd (x6 + 1) fun z27 => (g_N_wouldBeSeen_27 f) σ24 a0 x3 x5 z27) (some ((0 : Int32), σ24)))
def g_N_wouldBeSeen (σ : ns_St) (a0 : Nat) (x1 : Int32) (x2 : Int32) (x3 : Int64) : Option (Int32 × ns_St) := grd (ns_kd a0 = 8) <| drf (σ.2.2 a0 8) fun b28 => grd (ns_kd b28 = 2) <| cl2 (g_Mule_become σ b28 (0 : Int32) x1 (0 : Int32)) fun r30 σ29 => drf (σ29.2.2 a0 8) fun b31 => grd (ns_kd b31 = 2) <| bnd (ns_pI σ29 b31 3 x2) fun σ32 => cl2 (g_N_lastOf σ32 x3) fun r34 σ33 => g_N_wouldBeSeen_27 ns_F σ33 a0 x3 r34 (1 : Int32)
theorem t_N_wouldBeSeen_27 (G : ns_G) (l : Launch) {p : Program} {e : Env} {s : State} {m : MethodId} {args : Array Value} {below : List Frame} {meth : Method} {c : Code} (C : ns_Cx G p s m args meth c prog_1_method_65_code "NinthStep" 7) (hr : meth.sig.returnType = (some .boolean)) {r : Int32} {σ' : ns_St}  : ∀ (f : Nat) (σ : ns_St) (a0 : Nat) (x3 : Int64) (x5 : Int32) (x6 : Int32) (hk_a0 : ns_kd a0 = 8), g_N_wouldBeSeen_27 f σ a0 x3 x5 x6 = some (r, σ') → VV G p l e { frames := 3, cells := 0, slots := 0, locals := 64 } s m args below meth c 7 0 0 (MQ below (ns_Qc G (some (.int r)) ns_N σ') args s 0 0 (ns_A G)) ns_N σ 27 [(0, .ref (G.1 + a0)), (3, .long x3), (5, .int x5), (6, .int x6)] [] := by
  intro f
  induction f with
  | zero =>
    intro σ a0 x3 x5 x6 hk_a0 hf
    cases hf
  | succ f ih =>
    intro σ a0 x3 x5 x6 hk_a0 hf
    rw [g_N_wouldBeSeen_27] at hf
    refine v_iload C 6 3 rfl 29 rfl (by decide +kernel) ?_
    refine v_iload C 5 2 rfl 31 rfl (by decide +kernel) ?_
    refine v_icmp_gt C 66 34 rfl (by decide +kernel) (fun h18 => ?_) (fun h18 => ?_)
    · have hf := ite2_t hf h18
      refine v_iconst C (1) (1) (by decide) 67 rfl (by decide +kernel) ?_
      obtain ⟨rfl, rfl⟩ := ret_e hf
      exact v_zret C hr rfl (by decide +kernel)
    · have hf := ite2_f hf h18
      refine v_aload_n C 0 0 rfl 35 rfl (by decide +kernel) ?_
      obtain ⟨b19, hb19, hf⟩ := drf_e hf
      obtain ⟨hk_b19, hf⟩ := grd_e hf
      refine v_getR C 8 8 hb19 rfl nin_8 (ns_kd_lt hk_a0 (by decide)) hk_a0 (by decide) (by decide) rfl 59 tw_295 rfl 38 rfl (by decide +kernel) ?_
      refine v_aload_n C 0 0 rfl 39 rfl (by decide +kernel) ?_
      obtain ⟨b20, hb20, hf⟩ := drf_e hf
      obtain ⟨hk_b20, hf⟩ := grd_e hf
      refine v_getR C 8 0 hb20 rfl nin_8 (ns_kd_lt hk_a0 (by decide)) hk_a0 (by decide) (by decide) rfl 12 tw_287 rfl 42 rfl (by decide +kernel) ?_
      obtain ⟨b21, hb21, hf⟩ := drf_e hf
      obtain ⟨hk_b21, hf⟩ := grd_e hf
      refine v_getRN C 7 0 hb21 rfl nin_7 (ns_kd_lt hk_b20 (by decide)) hk_b20 (by decide) (by decide) rfl 138 tw_128 rfl 45 rfl (by decide +kernel) ?_
      refine v_iconst C (0) (0) (by decide) 46 rfl (by decide +kernel) ?_
      obtain ⟨r23, σ22, hcr23, hf⟩ := cl2_e hf
      refine v_cVN C 2 rfl (ns_kd_lt hk_b19 (by decide)) hk_b19 (by decide) [.ref (G.1 + b21), .int (0 : Int32)] [] (c_Mule_makeStep G l σ b19 b21 (0 : Int32) hcr23) 357 2 tw_656 tw_653 tw_655 ts_32 tw_4 hd_Mule_makeStep rfl ⟨(Nat.le_of_ble_eq_true rfl), (Nat.le_of_ble_eq_true rfl)⟩ ⟨(Nat.le_of_ble_eq_true rfl), (Nat.le_of_ble_eq_true rfl)⟩ (Nat.le_of_ble_eq_true rfl) rfl 49 rfl (by decide +kernel) [.int r23] rfl ?_
      refine v_lload_n C 3 1 rfl 50 rfl (by decide +kernel) ?_
      refine v_iload C 6 3 rfl 52 rfl (by decide +kernel) ?_
      obtain ⟨r25, σ24, hcr25, hf⟩ := cl2_e hf
      refine v_cS C [.long x3, .int x6] [.int r23] (c_N_isIn G l σ22 x3 x6 hcr25) 160 2 tw_455 tw_460 tw_454 tw_1 hd_N_isIn rfl ⟨(Nat.le_of_ble_eq_true rfl), (Nat.le_of_ble_eq_true rfl)⟩ ⟨(Nat.le_of_ble_eq_true rfl), (Nat.le_of_ble_eq_true rfl)⟩ (Nat.le_of_ble_eq_true rfl) rfl 55 rfl (by decide +kernel) [.int r25, .int r23] rfl ?_
      refine v_icmp_eq C 60 58 rfl (by decide +kernel) (fun h26 => ?_) (fun h26 => ?_)
      · have hf := ite2_t hf h26
        obtain ⟨z27, hz27, hf⟩ := bnd_e hf
        refine v_iinc C 6 (1) 3 z27 rfl (by rw [hz27]; rfl) [(6, .int z27), (0, .ref (G.1 + a0)), (3, .long x3), (5, .int x5)] (by decide) rfl 63 rfl (by decide +kernel) ?_
        refine v_goto C 27 (by decide +kernel) ?_
        refine v_sub [1, 2, 3, 0] rfl ?_
        exact ih σ24 a0 x3 x5 z27 hk_a0 hf
      · have hf := ite2_f hf h26
        refine v_iconst C (0) (0) (by decide) 59 rfl (by decide +kernel) ?_
        obtain ⟨rfl, rfl⟩ := ret_e hf
        exact v_zret C hr rfl (by decide +kernel)
theorem c_N_wouldBeSeen (G : ns_G) (l : Launch) (σ : ns_St) (a0 : Nat) (x1 : Int32) (x2 : Int32) (x3 : Int64) {r : Int32} {σ' : ns_St} (hf : g_N_wouldBeSeen σ a0 x1 x2 x3 = some (r, σ')) : ns_ok G l ⟨"NinthStep", "wouldBeSeen", "(IIJ)Z"⟩ prog_1_method_65_code 7 (some .boolean) 3 64 0 0 [.ref (G.1 + a0), .int x1, .int x2, .long x3] ns_N σ (some (.int r)) ns_N σ' := by
  refine v_open (by decide) (Nat.le_of_ble_eq_true rfl) rfl ?_
  intro p e s m below meth c C hr _
  have C : ns_Cx G p s m _ meth c prog_1_method_65_code "NinthStep" 7 := C
  unfold g_N_wouldBeSeen at hf
  obtain ⟨hk_a0, hf⟩ := grd_e hf
  refine v_aload_n C 0 0 rfl 1 rfl (by decide +kernel) ?_
  obtain ⟨b28, hb28, hf⟩ := drf_e hf
  obtain ⟨hk_b28, hf⟩ := grd_e hf
  refine v_getR C 8 8 hb28 rfl nin_8 (ns_kd_lt hk_a0 (by decide)) hk_a0 (by decide) (by decide) rfl 59 tw_295 rfl 4 rfl (by decide +kernel) ?_
  refine v_iconst C (0) (0) (by decide) 5 rfl (by decide +kernel) ?_
  refine v_iload_n C 1 1 rfl 6 rfl (by decide +kernel) ?_
  refine v_iconst C (0) (0) (by decide) 7 rfl (by decide +kernel) ?_
  obtain ⟨r30, σ29, hcr30, hf⟩ := cl2_e hf
  refine v_cVN C 2 rfl (ns_kd_lt hk_b28 (by decide)) hk_b28 (by decide) [.int (0 : Int32), .int x1, .int (0 : Int32)] [] (c_Mule_become G l σ b28 (0 : Int32) x1 (0 : Int32) hcr30) 172 3 tw_481 tw_478 tw_480 ts_15 tw_4 hd_Mule_become rfl ⟨(Nat.le_of_ble_eq_true rfl), (Nat.le_of_ble_eq_true rfl)⟩ ⟨(Nat.le_of_ble_eq_true rfl), (Nat.le_of_ble_eq_true rfl)⟩ (Nat.le_of_ble_eq_true rfl) rfl 10 rfl (by decide +kernel) [] rfl ?_
  refine v_aload_n C 0 0 rfl 11 rfl (by decide +kernel) ?_
  obtain ⟨b31, hb31, hf⟩ := drf_e hf
  obtain ⟨hk_b31, hf⟩ := grd_e hf
  refine v_getR C 8 8 hb31 rfl nin_8 (ns_kd_lt hk_a0 (by decide)) hk_a0 (by decide) (by decide) rfl 59 tw_295 rfl 14 rfl (by decide +kernel) ?_
  refine v_iload_n C 2 2 rfl 15 rfl (by decide +kernel) ?_
  obtain ⟨σ32, hσ32, hf⟩ := bnd_e hf
  refine v_putIN C 2 3 hσ32 rfl nin_2 ny_2 nty_2 nnm_2 (ns_kd_lt hk_b31 (by decide)) hk_b31 (by decide) (by decide) rfl rfl rfl rfl 182 tw_97 rfl 18 rfl (by decide +kernel) ?_
  refine v_lload_n C 3 3 rfl 19 rfl (by decide +kernel) ?_
  obtain ⟨r34, σ33, hcr34, hf⟩ := cl2_e hf
  refine v_cS C [.long x3] [] (c_N_lastOf G l σ32 x3 hcr34) 376 1 tw_434 tw_873 tw_433 tw_1 hd_N_lastOf rfl ⟨(Nat.le_of_ble_eq_true rfl), (Nat.le_of_ble_eq_true rfl)⟩ ⟨(Nat.le_of_ble_eq_true rfl), (Nat.le_of_ble_eq_true rfl)⟩ (Nat.le_of_ble_eq_true rfl) rfl 22 rfl (by decide +kernel) [.int r34] rfl ?_
  refine v_istore C 5 [(5, .int r34), (0, .ref (G.1 + a0)), (1, .int x1), (2, .int x2), (3, .long x3)] (by decide) rfl 24 rfl (by decide +kernel) ?_
  refine v_iconst C (1) (1) (by decide) 25 rfl (by decide +kernel) ?_
  refine v_istore C 6 [(6, .int (1 : Int32)), (5, .int r34), (0, .ref (G.1 + a0)), (1, .int x1), (2, .int x2), (3, .long x3)] (by decide) rfl 27 rfl (by decide +kernel) ?_
  refine v_sub [2, 5, 1, 0] rfl ?_
  exact t_N_wouldBeSeen_27 G l C hr  ns_F σ33 a0 x3 r34 (1 : Int32) hk_a0 hf
theorem hd_N_wouldBeSeen : (⟨"NinthStep", "wouldBeSeen", "(IIJ)Z"⟩ : MethodName).cls = "NinthStep" ∧ (⟨"NinthStep", "wouldBeSeen", "(IIJ)Z"⟩ : MethodName).cls ≠ "java/lang/invoke/MethodHandle" ∧ (⟨"NinthStep", "wouldBeSeen", "(IIJ)Z"⟩ : MethodName).cls ≠ "java/lang/invoke/VarHandle" ∧ (parseMethodDescriptor (⟨"NinthStep", "wouldBeSeen", "(IIJ)Z"⟩ : MethodName).desc).map (fun d => d.parameters.length) = some 3 := by decide +kernel
def g_N_pairsBy_19 (kh9 : ns_St → Nat → Int64 → Int32 → Int32 → Int32 → Int32 → Option (Int32 × ns_St)) : Nat → ns_St → Nat → Int64 → Int32 → Int32 → Int32 → Int32 → Int32 → Option (Int32 × ns_St)
  | 0, _, _, _, _, _, _, _, _ => none
  | f + 1, σ, a0, x1, x3, x4, x5, x6, x7 => ite2 (x6 ≤ x7) (bnd (x6 + 1) fun z13 => kh9 σ a0 x1 x3 x4 x5 z13) (cl2 (g_N_wouldBeSeen σ a0 x6 x7 x1) fun r15 σ14 => ite2 (r15 = 0) (bnd (x7 + 1) fun z17 => (g_N_pairsBy_19 kh9 f) σ14 a0 x1 x3 x4 x5 x6 z17) (bnd (x4 + 1) fun z18 => bnd (x5 ||| ((1 : Int32) <<< (x6 &&& 31))) fun z19 => bnd (x7 + 1) fun z20 => (g_N_pairsBy_19 kh9 f) σ14 a0 x1 x3 z18 z19 x6 z20))
def g_N_pairsBy_9  : Nat → ns_St → Nat → Int64 → Int32 → Int32 → Int32 → Int32 → Option (Int32 × ns_St)
  | 0, _, _, _, _, _, _, _ => none
  | f + 1, σ, a0, x1, x3, x4, x5, x6 => ite2 ((13 : Int32) < x6) (ite2 (x3 = 0) (some (x4, σ)) (some (x5, σ))) (g_N_pairsBy_19 (g_N_pairsBy_9 f) ns_F σ a0 x1 x3 x4 x5 x6 (0 : Int32))
def g_N_pairsBy (σ : ns_St) (a0 : Nat) (x1 : Int64) (x3 : Int32) : Option (Int32 × ns_St) := grd (ns_kd a0 = 8) <| g_N_pairsBy_9 ns_F σ a0 x1 x3 (0 : Int32) (0 : Int32) (2 : Int32)
theorem t_N_pairsBy_19 (G : ns_G) (l : Launch) {p : Program} {e : Env} {s : State} {m : MethodId} {args : Array Value} {below : List Frame} {meth : Method} {c : Code} (C : ns_Cx G p s m args meth c prog_1_method_64_code "NinthStep" 8) (hr : meth.sig.returnType = (some .int)) {r : Int32} {σ' : ns_St} {kh9 : ns_St → Nat → Int64 → Int32 → Int32 → Int32 → Int32 → Option (Int32 × ns_St)} (hkh9 : ∀ (σ : ns_St) (a0 : Nat) (x1 : Int64) (x3 : Int32) (x4 : Int32) (x5 : Int32) (x6 : Int32), ns_kd a0 = 8 → kh9 σ a0 x1 x3 x4 x5 x6 = some (r, σ') → VV G p l e { frames := 4, cells := 0, slots := 0, locals := 90 } s m args below meth c 8 0 0 (MQ below (ns_Qc G (some (.int r)) ns_N σ') args s 0 0 (ns_A G)) ns_N σ 9 [(0, .ref (G.1 + a0)), (1, .long x1), (3, .int x3), (4, .int x4), (5, .int x5), (6, .int x6)] []) : ∀ (f : Nat) (σ : ns_St) (a0 : Nat) (x1 : Int64) (x3 : Int32) (x4 : Int32) (x5 : Int32) (x6 : Int32) (x7 : Int32) (hk_a0 : ns_kd a0 = 8), g_N_pairsBy_19 kh9 f σ a0 x1 x3 x4 x5 x6 x7 = some (r, σ') → VV G p l e { frames := 4, cells := 0, slots := 0, locals := 90 } s m args below meth c 8 0 0 (MQ below (ns_Qc G (some (.int r)) ns_N σ') args s 0 0 (ns_A G)) ns_N σ 19 [(0, .ref (G.1 + a0)), (1, .long x1), (3, .int x3), (4, .int x4), (5, .int x5), (6, .int x6), (7, .int x7)] [] := by
  intro f
  induction f with
  | zero =>
    intro σ a0 x1 x3 x4 x5 x6 x7 hk_a0 hf
    cases hf
  | succ f ih =>
    intro σ a0 x1 x3 x4 x5 x6 x7 hk_a0 hf
    rw [g_N_pairsBy_19] at hf
    refine v_iload C 7 6 rfl 21 rfl (by decide +kernel) ?_
    refine v_iload C 6 5 rfl 23 rfl (by decide +kernel) ?_
    refine v_icmp_ge C 56 26 rfl (by decide +kernel) (fun h12 => ?_) (fun h12 => ?_)
    · have hf := ite2_t hf h12
      obtain ⟨z13, hz13, hf⟩ := bnd_e hf
      refine v_iinc C 6 (1) 5 z13 rfl (by rw [hz13]; rfl) [(6, .int z13), (0, .ref (G.1 + a0)), (1, .long x1), (3, .int x3), (4, .int x4), (5, .int x5), (7, .int x7)] (by decide) rfl 59 rfl (by decide +kernel) ?_
      refine v_goto C 9 (by decide +kernel) ?_
      refine v_sub [1, 2, 3, 4, 5, 0] rfl ?_
      exact hkh9 σ a0 x1 x3 x4 x5 z13 hk_a0 hf
    · have hf := ite2_f hf h12
      refine v_aload_n C 0 0 rfl 27 rfl (by decide +kernel) ?_
      refine v_iload C 6 5 rfl 29 rfl (by decide +kernel) ?_
      refine v_iload C 7 6 rfl 31 rfl (by decide +kernel) ?_
      refine v_lload_n C 1 1 rfl 32 rfl (by decide +kernel) ?_
      obtain ⟨r15, σ14, hcr15, hf⟩ := cl2_e hf
      refine v_cV C 8 rfl (ns_kd_lt hk_a0 (by decide)) hk_a0 (by decide) [.int x6, .int x7, .long x1] [] (c_N_wouldBeSeen G l σ a0 x6 x7 x1 hcr15) 372 3 tw_872 tw_869 tw_871 ts_64 tw_1 hd_N_wouldBeSeen rfl ⟨(Nat.le_of_ble_eq_true rfl), (Nat.le_of_ble_eq_true rfl)⟩ ⟨(Nat.le_of_ble_eq_true rfl), (Nat.le_of_ble_eq_true rfl)⟩ (Nat.le_of_ble_eq_true rfl) rfl 35 rfl (by decide +kernel) [.int r15] rfl ?_
      refine v_if_eq C 50 38 rfl (by decide +kernel) (fun h16 => ?_) (fun h16 => ?_)
      · have hf := ite2_t hf h16
        obtain ⟨z17, hz17, hf⟩ := bnd_e hf
        refine v_iinc C 7 (1) 6 z17 rfl (by rw [hz17]; rfl) [(7, .int z17), (0, .ref (G.1 + a0)), (1, .long x1), (3, .int x3), (4, .int x4), (5, .int x5), (6, .int x6)] (by decide) rfl 53 rfl (by decide +kernel) ?_
        refine v_goto C 19 (by decide +kernel) ?_
        refine v_sub [1, 2, 3, 4, 5, 6, 0] rfl ?_
        exact ih σ14 a0 x1 x3 x4 x5 x6 z17 hk_a0 hf
      · have hf := ite2_f hf h16
        obtain ⟨z18, hz18, hf⟩ := bnd_e hf
        refine v_iinc C 4 (1) 3 z18 rfl (by rw [hz18]; rfl) [(4, .int z18), (0, .ref (G.1 + a0)), (1, .long x1), (3, .int x3), (5, .int x5), (6, .int x6), (7, .int x7)] (by decide) rfl 41 rfl (by decide +kernel) ?_
        refine v_iload C 5 4 rfl 43 rfl (by decide +kernel) ?_
        refine v_iconst C (1) (1) (by decide) 44 rfl (by decide +kernel) ?_
        refine v_iload C 6 5 rfl 46 rfl (by decide +kernel) ?_
        refine v_ishl C 47 rfl (by decide +kernel) ?_
        refine v_ior C 48 rfl (by decide +kernel) ?_
        obtain ⟨z19, hz19, hf⟩ := bnd_e hf
        refine v_nmI hz19 ?_
        refine v_istore C 5 [(5, .int z19), (4, .int z18), (0, .ref (G.1 + a0)), (1, .long x1), (3, .int x3), (6, .int x6), (7, .int x7)] (by decide) rfl 50 rfl (by decide +kernel) ?_
        obtain ⟨z20, hz20, hf⟩ := bnd_e hf
        refine v_iinc C 7 (1) 6 z20 rfl (by rw [hz20]; rfl) [(7, .int z20), (5, .int z19), (4, .int z18), (0, .ref (G.1 + a0)), (1, .long x1), (3, .int x3), (6, .int x6)] (by decide) rfl 53 rfl (by decide +kernel) ?_
        refine v_goto C 19 (by decide +kernel) ?_
        refine v_sub [3, 4, 5, 2, 1, 6, 0] rfl ?_
        exact ih σ14 a0 x1 x3 z18 z19 x6 z20 hk_a0 hf
theorem t_N_pairsBy_9 (G : ns_G) (l : Launch) {p : Program} {e : Env} {s : State} {m : MethodId} {args : Array Value} {below : List Frame} {meth : Method} {c : Code} (C : ns_Cx G p s m args meth c prog_1_method_64_code "NinthStep" 8) (hr : meth.sig.returnType = (some .int)) {r : Int32} {σ' : ns_St}  : ∀ (f : Nat) (σ : ns_St) (a0 : Nat) (x1 : Int64) (x3 : Int32) (x4 : Int32) (x5 : Int32) (x6 : Int32) (hk_a0 : ns_kd a0 = 8), g_N_pairsBy_9 f σ a0 x1 x3 x4 x5 x6 = some (r, σ') → VV G p l e { frames := 4, cells := 0, slots := 0, locals := 90 } s m args below meth c 8 0 0 (MQ below (ns_Qc G (some (.int r)) ns_N σ') args s 0 0 (ns_A G)) ns_N σ 9 [(0, .ref (G.1 + a0)), (1, .long x1), (3, .int x3), (4, .int x4), (5, .int x5), (6, .int x6)] [] := by
  intro f
  induction f with
  | zero =>
    intro σ a0 x1 x3 x4 x5 x6 hk_a0 hf
    cases hf
  | succ f ih =>
    intro σ a0 x1 x3 x4 x5 x6 hk_a0 hf
    rw [g_N_pairsBy_9] at hf
    refine v_iload C 6 5 rfl 11 rfl (by decide +kernel) ?_
    refine v_bipush C (13) (13) (by decide) 13 rfl (by decide +kernel) ?_
    refine v_icmp_gt C 62 16 rfl (by decide +kernel) (fun h21 => ?_) (fun h21 => ?_)
    · have hf := ite2_t hf h21
      refine v_iload_n C 3 2 rfl 63 rfl (by decide +kernel) ?_
      refine v_if_eq C 71 66 rfl (by decide +kernel) (fun h22 => ?_) (fun h22 => ?_)
      · have hf := ite2_t hf h22
        refine v_iload C 4 3 rfl 73 rfl (by decide +kernel) ?_
        obtain ⟨rfl, rfl⟩ := ret_e hf
        exact v_iret C hr (by decide +kernel)
      · have hf := ite2_f hf h22
        refine v_iload C 5 4 rfl 68 rfl (by decide +kernel) ?_
        refine v_goto C 73 (by decide +kernel) ?_
        obtain ⟨rfl, rfl⟩ := ret_e hf
        exact v_iret C hr (by decide +kernel)
    · have hf := ite2_f hf h21
      refine v_iconst C (0) (0) (by decide) 17 rfl (by decide +kernel) ?_
      refine v_istore C 7 [(7, .int (0 : Int32)), (0, .ref (G.1 + a0)), (1, .long x1), (3, .int x3), (4, .int x4), (5, .int x5), (6, .int x6)] (by decide) rfl 19 rfl (by decide +kernel) ?_
      refine v_sub [1, 2, 3, 4, 5, 6, 0] rfl ?_
      exact t_N_pairsBy_19 G l C hr ih ns_F σ a0 x1 x3 x4 x5 x6 (0 : Int32) hk_a0 hf
theorem c_N_pairsBy (G : ns_G) (l : Launch) (σ : ns_St) (a0 : Nat) (x1 : Int64) (x3 : Int32) {r : Int32} {σ' : ns_St} (hf : g_N_pairsBy σ a0 x1 x3 = some (r, σ')) : ns_ok G l ⟨"NinthStep", "pairsBy", "(JZ)I"⟩ prog_1_method_64_code 8 (some .int) 4 90 0 0 [.ref (G.1 + a0), .long x1, .int x3] ns_N σ (some (.int r)) ns_N σ' := by
  refine v_open (by decide) (Nat.le_of_ble_eq_true rfl) rfl ?_
  intro p e s m below meth c C hr _
  have C : ns_Cx G p s m _ meth c prog_1_method_64_code "NinthStep" 8 := C
  unfold g_N_pairsBy at hf
  obtain ⟨hk_a0, hf⟩ := grd_e hf
  refine v_iconst C (0) (0) (by decide) 1 rfl (by decide +kernel) ?_
  refine v_istore C 4 [(4, .int (0 : Int32)), (0, .ref (G.1 + a0)), (1, .long x1), (3, .int x3)] (by decide) rfl 3 rfl (by decide +kernel) ?_
  refine v_iconst C (0) (0) (by decide) 4 rfl (by decide +kernel) ?_
  refine v_istore C 5 [(5, .int (0 : Int32)), (4, .int (0 : Int32)), (0, .ref (G.1 + a0)), (1, .long x1), (3, .int x3)] (by decide) rfl 6 rfl (by decide +kernel) ?_
  refine v_iconst C (2) (2) (by decide) 7 rfl (by decide +kernel) ?_
  refine v_istore C 6 [(6, .int (2 : Int32)), (5, .int (0 : Int32)), (4, .int (0 : Int32)), (0, .ref (G.1 + a0)), (1, .long x1), (3, .int x3)] (by decide) rfl 9 rfl (by decide +kernel) ?_
  refine v_sub [3, 4, 5, 2, 1, 0] rfl ?_
  exact t_N_pairsBy_9 G l C hr  ns_F σ a0 x1 x3 (0 : Int32) (0 : Int32) (2 : Int32) hk_a0 hf
theorem hd_N_pairsBy : (⟨"NinthStep", "pairsBy", "(JZ)I"⟩ : MethodName).cls = "NinthStep" ∧ (⟨"NinthStep", "pairsBy", "(JZ)I"⟩ : MethodName).cls ≠ "java/lang/invoke/MethodHandle" ∧ (⟨"NinthStep", "pairsBy", "(JZ)I"⟩ : MethodName).cls ≠ "java/lang/invoke/VarHandle" ∧ (parseMethodDescriptor (⟨"NinthStep", "pairsBy", "(JZ)I"⟩ : MethodName).desc).map (fun d => d.parameters.length) = some 2 := by decide +kernel
