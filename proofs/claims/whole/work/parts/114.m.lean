def g_M_says_160  : Nat → ns_St → Nat → Int32 → Option (Int32 × ns_St)
  | 0, _, _, _ => none
  | f + 1, σ, a0, x4 => ite2 ((σ.1 a0 3) < x4) (some ((-1 : Int32), σ)) (cl2 (g_M_isThere σ a0 x4 (2 : Int32)) fun r55 σ54 => ite2 (r55 = 0) (bnd (x4 + 1) fun z57 => (g_M_says_160 f) σ54 a0 z57) (some (x4, σ54)))
def g_M_says_68  (σ : ns_St) (a0 : Nat) (x2 : Int32) (x3 : Int32) : Option (Int32 × ns_St) := ite2 (0 ≤ x3) (ite2 (x2 = 0) (drf (σ.2.2 a0 7) fun b60 => grd (ns_kd b60 = 10) <| grd (ns_in x3 (ns_ln b60)) <| some ((σ.1 b60 (ns_ix x3)), σ)) (ite2 (x2 = 1) (cl2 (g_M_rest σ a0 x3) fun r64 σ63 => some (r64, σ63)) (ite2 (x2 = 2) (cl2 (g_M_aheadOf σ a0 x3 (1 : Int32)) fun r67 σ66 => some (r67, σ66)) (ite2 (x2 = 3) (cl2 (g_M_aheadOf σ a0 x3 (4 : Int32)) fun r70 σ69 => some (r70, σ69)) (ite2 (x2 = 4) (cl2 (g_M_aheadOf σ a0 x3 (2 : Int32)) fun r73 σ72 => some (r73, σ72)) (drf (σ.2.2 a0 8) fun b74 => grd (ns_kd b74 = 10) <| grd (ns_in x3 (ns_ln b74)) <| bnd ((σ.1 b74 (ns_ix x3)) + (1 : Int32)) fun z76 => g_M_says_160 ns_F σ a0 z76)))))) (cl2 (g_M_no σ a0 (-4 : Int32)) fun r78 σ77 => some (r78, σ77))
def g_M_says (σ : ns_St) (a0 : Nat) (x1 : Int32) (x2 : Int32) : Option (Int32 × ns_St) := grd (ns_kd a0 = 9) <| cl2 (g_M_within σ x1 (0 : Int32) (7 : Int32)) fun r80 σ79 => ite2 (r80 = 0) (cl2 (g_M_no σ79 a0 (-2 : Int32)) fun r83 σ82 => some (r83, σ82)) (cl2 (g_M_within σ79 x2 (0 : Int32) (5 : Int32)) fun r85 σ84 => ite2 (r85 = 0) (cl2 (g_M_no σ84 a0 (-2 : Int32)) fun r104 σ103 => some (r104, σ103)) (drf (σ84.2.2 a0 0) fun b87 => grd (ns_kd b87 = 10) <| grd (ns_in x1 (ns_ln b87)) <| bnd ((σ84.1 b87 (ns_ix x1)) - (10 : Int32)) fun z89 => cl2 (g_M_isRow σ84 a0 x1) fun r91 σ90 => ite2 (r91 = 0) (ite2 (z89 < 0) (g_M_says_68 σ90 a0 x2 z89) (drf (σ90.2.2 a0 6) fun b96 => grd (ns_kd b96 = 10) <| grd (ns_in z89 (ns_ln b96)) <| cl2 (g_M_isUnder σ90 (σ90.1 b96 (ns_ix z89)) x2) fun r99 σ98 => ite2 (r99 = 0) (cl2 (g_M_no σ98 a0 (-3 : Int32)) fun r102 σ101 => some (r102, σ101)) (g_M_says_68 σ98 a0 x2 z89))) (cl2 (g_M_no σ90 a0 (-3 : Int32)) fun r94 σ93 => some (r94, σ93))))
theorem t_M_says_160 (G : ns_G) (l : Launch) {p : Program} {e : Env} {s : State} {m : MethodId} {args : Array Value} {below : List Frame} {meth : Method} {c : Code} (C : ns_Cx G p s m args meth c prog_11_method_17_code "NinthStepModel" 5) (hr : meth.sig.returnType = (some .int)) {r : Int32} {σ' : ns_St}  : ∀ (f : Nat) (σ : ns_St) (a0 : Nat) (x4 : Int32) (hk_a0 : ns_kd a0 = 9), g_M_says_160 f σ a0 x4 = some (r, σ') → VV G p l e { frames := 2, cells := 0, slots := 0, locals := 46 } s m args below meth c 5 0 0 (MQ below (ns_Qc G (some (.int r)) ns_N σ') args s 0 0 (ns_A G)) ns_N σ 160 [(0, .ref (G.1 + a0)), (4, .int x4)] [] := by
  intro f
  induction f with
  | zero =>
    intro σ a0 x4 hk_a0 hf
    cases hf
  | succ f ih =>
    intro σ a0 x4 hk_a0 hf
    rw [g_M_says_160] at hf
    refine v_iload C 4 1 rfl 162 rfl (by decide +kernel) ?_
    refine v_aload_n C 0 0 rfl 163 rfl (by decide +kernel) ?_
    refine v_getI C 9 3 rfl nin_9 (ns_kd_lt hk_a0 (by decide)) hk_a0 (by decide) (by decide) rfl 59 tw_978 rfl 166 rfl (by decide +kernel) ?_
    refine v_icmp_gt C 188 169 rfl (by decide +kernel) (fun h53 => ?_) (fun h53 => ?_)
    · have hf := ite2_t hf h53
      refine v_iconst C (-1) (-1) (by decide) 189 rfl (by decide +kernel) ?_
      obtain ⟨rfl, rfl⟩ := ret_e hf
      exact v_iret C hr (by decide +kernel)
    · have hf := ite2_f hf h53
      refine v_aload_n C 0 0 rfl 170 rfl (by decide +kernel) ?_
      refine v_iload C 4 1 rfl 172 rfl (by decide +kernel) ?_
      refine v_iconst C (2) (2) (by decide) 173 rfl (by decide +kernel) ?_
      obtain ⟨r55, σ54, hcr55, hf⟩ := cl2_e hf
      refine v_cV C 9 rfl (ns_kd_lt hk_a0 (by decide)) hk_a0 (by decide) [.int x4, .int (2 : Int32)] [] (c_M_isThere G l σ a0 x4 (2 : Int32) hcr55) 87 2 tw_1130 tw_1127 tw_1129 ts_79 tw_10 hd_M_isThere rfl ⟨(Nat.le_of_ble_eq_true rfl), (Nat.le_of_ble_eq_true rfl)⟩ ⟨(Nat.le_of_ble_eq_true rfl), (Nat.le_of_ble_eq_true rfl)⟩ (Nat.le_of_ble_eq_true rfl) rfl 176 rfl (by decide +kernel) [.int r55] rfl ?_
      refine v_if_eq C 182 179 rfl (by decide +kernel) (fun h56 => ?_) (fun h56 => ?_)
      · have hf := ite2_t hf h56
        obtain ⟨z57, hz57, hf⟩ := bnd_e hf
        refine v_iinc C 4 (1) 1 z57 rfl (by rw [hz57]; rfl) [(4, .int z57), (0, .ref (G.1 + a0))] (by decide) rfl 185 rfl (by decide +kernel) ?_
        refine v_goto C 160 (by decide +kernel) ?_
        refine v_sub [1, 0] rfl ?_
        exact ih σ54 a0 z57 hk_a0 hf
      · have hf := ite2_f hf h56
        refine v_iload C 4 1 rfl 181 rfl (by decide +kernel) ?_
        obtain ⟨rfl, rfl⟩ := ret_e hf
        exact v_iret C hr (by decide +kernel)
theorem t_M_says_68 (G : ns_G) (l : Launch) {p : Program} {e : Env} {s : State} {m : MethodId} {args : Array Value} {below : List Frame} {meth : Method} {c : Code} (C : ns_Cx G p s m args meth c prog_11_method_17_code "NinthStepModel" 5) (hr : meth.sig.returnType = (some .int)) {r : Int32} {σ' : ns_St}  (σ : ns_St) (a0 : Nat) (x2 : Int32) (x3 : Int32) (hk_a0 : ns_kd a0 = 9) (hf : g_M_says_68 σ a0 x2 x3 = some (r, σ')) : VV G p l e { frames := 2, cells := 0, slots := 0, locals := 46 } s m args below meth c 5 0 0 (MQ below (ns_Qc G (some (.int r)) ns_N σ') args s 0 0 (ns_A G)) ns_N σ 68 [(0, .ref (G.1 + a0)), (2, .int x2), (3, .int x3)] [] := by
  unfold g_M_says_68 at hf
  refine v_iload_n C 3 2 rfl 69 rfl (by decide +kernel) ?_
  refine v_if_ge C 79 72 rfl (by decide +kernel) (fun h58 => ?_) (fun h58 => ?_)
  · have hf := ite2_t hf h58
    refine v_iload_n C 2 1 rfl 80 rfl (by decide +kernel) ?_
    by_cases h59 : x2 = 0
    · have hf := ite2_t hf h59
      refine v_tswI C (70) (0) (4) #[(36), (43), (49), (56), (63)] 36 116 (0) h59 (by decide) (by decide) (36) (by decide) (by decide) (by decide +kernel) ?_
      refine v_aload_n C 0 0 rfl 117 rfl (by decide +kernel) ?_
      obtain ⟨b60, hb60, hf⟩ := drf_e hf
      obtain ⟨hk_b60, hf⟩ := grd_e hf
      refine v_getR C 9 7 hb60 rfl nin_9 (ns_kd_lt hk_a0 (by decide)) hk_a0 (by decide) (by decide) rfl 26 tw_982 rfl 120 rfl (by decide +kernel) ?_
      refine v_iload_n C 3 2 rfl 121 rfl (by decide +kernel) ?_
      obtain ⟨hi61, hf⟩ := grd_e hf
      refine v_iald C (ns_kd_lt hk_b60 (by decide)) hk_b60 hi61 122 rfl (by decide +kernel) ?_
      obtain ⟨rfl, rfl⟩ := ret_e hf
      exact v_iret C hr (by decide +kernel)
    · have hf := ite2_f hf h59
      by_cases h62 : x2 = 1
      · have hf := ite2_t hf h62
        refine v_tswI C (70) (0) (4) #[(36), (43), (49), (56), (63)] 36 123 (1) h62 (by decide) (by decide) (43) (by decide) (by decide) (by decide +kernel) ?_
        refine v_aload_n C 0 0 rfl 124 rfl (by decide +kernel) ?_
        refine v_iload_n C 3 2 rfl 125 rfl (by decide +kernel) ?_
        obtain ⟨r64, σ63, hcr64, hf⟩ := cl2_e hf
        refine v_cV C 9 rfl (ns_kd_lt hk_a0 (by decide)) hk_a0 (by decide) [.int x3] [] (c_M_rest G l σ a0 x3 hcr64) 94 1 tw_1122 tw_1119 tw_1121 ts_77 tw_10 hd_M_rest rfl ⟨(Nat.le_of_ble_eq_true rfl), (Nat.le_of_ble_eq_true rfl)⟩ ⟨(Nat.le_of_ble_eq_true rfl), (Nat.le_of_ble_eq_true rfl)⟩ (Nat.le_of_ble_eq_true rfl) rfl 128 rfl (by decide +kernel) [.int r64] rfl ?_
        obtain ⟨rfl, rfl⟩ := ret_e hf
        exact v_iret C hr (by decide +kernel)
      · have hf := ite2_f hf h62
        by_cases h65 : x2 = 2
        · have hf := ite2_t hf h65
          refine v_tswI C (70) (0) (4) #[(36), (43), (49), (56), (63)] 36 129 (2) h65 (by decide) (by decide) (49) (by decide) (by decide) (by decide +kernel) ?_
          refine v_aload_n C 0 0 rfl 130 rfl (by decide +kernel) ?_
          refine v_iload_n C 3 2 rfl 131 rfl (by decide +kernel) ?_
          refine v_iconst C (1) (1) (by decide) 132 rfl (by decide +kernel) ?_
          obtain ⟨r67, σ66, hcr67, hf⟩ := cl2_e hf
          refine v_cV C 9 rfl (ns_kd_lt hk_a0 (by decide)) hk_a0 (by decide) [.int x3, .int (1 : Int32)] [] (c_M_aheadOf G l σ a0 x3 (1 : Int32) hcr67) 97 2 tw_1126 tw_1123 tw_1125 ts_78 tw_10 hd_M_aheadOf rfl ⟨(Nat.le_of_ble_eq_true rfl), (Nat.le_of_ble_eq_true rfl)⟩ ⟨(Nat.le_of_ble_eq_true rfl), (Nat.le_of_ble_eq_true rfl)⟩ (Nat.le_of_ble_eq_true rfl) rfl 135 rfl (by decide +kernel) [.int r67] rfl ?_
          obtain ⟨rfl, rfl⟩ := ret_e hf
          exact v_iret C hr (by decide +kernel)
        · have hf := ite2_f hf h65
          by_cases h68 : x2 = 3
          · have hf := ite2_t hf h68
            refine v_tswI C (70) (0) (4) #[(36), (43), (49), (56), (63)] 36 136 (3) h68 (by decide) (by decide) (56) (by decide) (by decide) (by decide +kernel) ?_
            refine v_aload_n C 0 0 rfl 137 rfl (by decide +kernel) ?_
            refine v_iload_n C 3 2 rfl 138 rfl (by decide +kernel) ?_
            refine v_iconst C (4) (4) (by decide) 139 rfl (by decide +kernel) ?_
            obtain ⟨r70, σ69, hcr70, hf⟩ := cl2_e hf
            refine v_cV C 9 rfl (ns_kd_lt hk_a0 (by decide)) hk_a0 (by decide) [.int x3, .int (4 : Int32)] [] (c_M_aheadOf G l σ a0 x3 (4 : Int32) hcr70) 97 2 tw_1126 tw_1123 tw_1125 ts_78 tw_10 hd_M_aheadOf rfl ⟨(Nat.le_of_ble_eq_true rfl), (Nat.le_of_ble_eq_true rfl)⟩ ⟨(Nat.le_of_ble_eq_true rfl), (Nat.le_of_ble_eq_true rfl)⟩ (Nat.le_of_ble_eq_true rfl) rfl 142 rfl (by decide +kernel) [.int r70] rfl ?_
            obtain ⟨rfl, rfl⟩ := ret_e hf
            exact v_iret C hr (by decide +kernel)
          · have hf := ite2_f hf h68
            by_cases h71 : x2 = 4
            · have hf := ite2_t hf h71
              refine v_tswI C (70) (0) (4) #[(36), (43), (49), (56), (63)] 36 143 (4) h71 (by decide) (by decide) (63) (by decide) (by decide) (by decide +kernel) ?_
              refine v_aload_n C 0 0 rfl 144 rfl (by decide +kernel) ?_
              refine v_iload_n C 3 2 rfl 145 rfl (by decide +kernel) ?_
              refine v_iconst C (2) (2) (by decide) 146 rfl (by decide +kernel) ?_
              obtain ⟨r73, σ72, hcr73, hf⟩ := cl2_e hf
              refine v_cV C 9 rfl (ns_kd_lt hk_a0 (by decide)) hk_a0 (by decide) [.int x3, .int (2 : Int32)] [] (c_M_aheadOf G l σ a0 x3 (2 : Int32) hcr73) 97 2 tw_1126 tw_1123 tw_1125 ts_78 tw_10 hd_M_aheadOf rfl ⟨(Nat.le_of_ble_eq_true rfl), (Nat.le_of_ble_eq_true rfl)⟩ ⟨(Nat.le_of_ble_eq_true rfl), (Nat.le_of_ble_eq_true rfl)⟩ (Nat.le_of_ble_eq_true rfl) rfl 149 rfl (by decide +kernel) [.int r73] rfl ?_
              obtain ⟨rfl, rfl⟩ := ret_e hf
              exact v_iret C hr (by decide +kernel)
            · have hf := ite2_f hf h71
              refine v_tswO C (70) (0) (4) #[(36), (43), (49), (56), (63)] 36 150 (ns_out x2 (0) (4) (fun k h1 h2 => by
                have h3 : k = 0 ∨ k = 1 ∨ k = 2 ∨ k = 3 ∨ k = 4 := by omega
                rcases h3 with rfl | rfl | rfl | rfl | rfl
                · exact h59
                · exact h62
                · exact h65
                · exact h68
                · exact h71)) (by decide) (by decide +kernel) ?_
              refine v_aload_n C 0 0 rfl 151 rfl (by decide +kernel) ?_
              obtain ⟨b74, hb74, hf⟩ := drf_e hf
              obtain ⟨hk_b74, hf⟩ := grd_e hf
              refine v_getR C 9 8 hb74 rfl nin_9 (ns_kd_lt hk_a0 (by decide)) hk_a0 (by decide) (by decide) rfl 29 tw_983 rfl 154 rfl (by decide +kernel) ?_
              refine v_iload_n C 3 2 rfl 155 rfl (by decide +kernel) ?_
              obtain ⟨hi75, hf⟩ := grd_e hf
              refine v_iald C (ns_kd_lt hk_b74 (by decide)) hk_b74 hi75 156 rfl (by decide +kernel) ?_
              refine v_iconst C (1) (1) (by decide) 157 rfl (by decide +kernel) ?_
              refine v_iadd C 158 rfl (by decide +kernel) ?_
              obtain ⟨z76, hz76, hf⟩ := bnd_e hf
              refine v_nmI hz76 ?_
              refine v_istore C 4 [(4, .int z76), (0, .ref (G.1 + a0)), (2, .int x2), (3, .int x3)] (by decide) rfl 160 rfl (by decide +kernel) ?_
              refine v_sub [1, 0] rfl ?_
              exact t_M_says_160 G l C hr  ns_F σ a0 z76 hk_a0 hf
  · have hf := ite2_f hf h58
    refine v_aload_n C 0 0 rfl 73 rfl (by decide +kernel) ?_
    refine v_bipush C (-4) (-4) (by decide) 75 rfl (by decide +kernel) ?_
    obtain ⟨r78, σ77, hcr78, hf⟩ := cl2_e hf
    refine v_cV C 9 rfl (ns_kd_lt hk_a0 (by decide)) hk_a0 (by decide) [.int (-4 : Int32)] [] (c_M_no G l σ a0 (-4 : Int32) hcr78) 73 1 tw_1079 tw_1076 tw_1078 ts_73 tw_10 hd_M_no rfl ⟨(Nat.le_of_ble_eq_true rfl), (Nat.le_of_ble_eq_true rfl)⟩ ⟨(Nat.le_of_ble_eq_true rfl), (Nat.le_of_ble_eq_true rfl)⟩ (Nat.le_of_ble_eq_true rfl) rfl 78 rfl (by decide +kernel) [.int r78] rfl ?_
    obtain ⟨rfl, rfl⟩ := ret_e hf
    exact v_iret C hr (by decide +kernel)
theorem c_M_says (G : ns_G) (l : Launch) (σ : ns_St) (a0 : Nat) (x1 : Int32) (x2 : Int32) {r : Int32} {σ' : ns_St} (hf : g_M_says σ a0 x1 x2 = some (r, σ')) : ns_ok G l ⟨"NinthStepModel", "says", "(II)I"⟩ prog_11_method_17_code 5 (some .int) 2 46 0 0 [.ref (G.1 + a0), .int x1, .int x2] ns_N σ (some (.int r)) ns_N σ' := by
  refine v_open (by decide) (Nat.le_of_ble_eq_true rfl) rfl ?_
  intro p e s m below meth c C hr _
  have C : ns_Cx G p s m _ meth c prog_11_method_17_code "NinthStepModel" 5 := C
  unfold g_M_says at hf
  obtain ⟨hk_a0, hf⟩ := grd_e hf
  refine v_iload_n C 1 1 rfl 1 rfl (by decide +kernel) ?_
  refine v_iconst C (0) (0) (by decide) 2 rfl (by decide +kernel) ?_
  refine v_bipush C (7) (7) (by decide) 4 rfl (by decide +kernel) ?_
  obtain ⟨r80, σ79, hcr80, hf⟩ := cl2_e hf
  refine v_cS C [.int x1, .int (0 : Int32), .int (7 : Int32)] [] (c_M_within G l σ x1 (0 : Int32) (7 : Int32) hcr80) 69 3 tw_1075 tw_1073 tw_1074 tw_10 hd_M_within rfl ⟨(Nat.le_of_ble_eq_true rfl), (Nat.le_of_ble_eq_true rfl)⟩ ⟨(Nat.le_of_ble_eq_true rfl), (Nat.le_of_ble_eq_true rfl)⟩ (Nat.le_of_ble_eq_true rfl) rfl 7 rfl (by decide +kernel) [.int r80] rfl ?_
  refine v_if_eq C 19 10 rfl (by decide +kernel) (fun h81 => ?_) (fun h81 => ?_)
  · have hf := ite2_t hf h81
    refine v_aload_n C 0 0 rfl 20 rfl (by decide +kernel) ?_
    refine v_bipush C (-2) (-2) (by decide) 22 rfl (by decide +kernel) ?_
    obtain ⟨r83, σ82, hcr83, hf⟩ := cl2_e hf
    refine v_cV C 9 rfl (ns_kd_lt hk_a0 (by decide)) hk_a0 (by decide) [.int (-2 : Int32)] [] (c_M_no G l σ79 a0 (-2 : Int32) hcr83) 73 1 tw_1079 tw_1076 tw_1078 ts_73 tw_10 hd_M_no rfl ⟨(Nat.le_of_ble_eq_true rfl), (Nat.le_of_ble_eq_true rfl)⟩ ⟨(Nat.le_of_ble_eq_true rfl), (Nat.le_of_ble_eq_true rfl)⟩ (Nat.le_of_ble_eq_true rfl) rfl 25 rfl (by decide +kernel) [.int r83] rfl ?_
    obtain ⟨rfl, rfl⟩ := ret_e hf
    exact v_iret C hr (by decide +kernel)
  · have hf := ite2_f hf h81
    refine v_iload_n C 2 2 rfl 11 rfl (by decide +kernel) ?_
    refine v_iconst C (0) (0) (by decide) 12 rfl (by decide +kernel) ?_
    refine v_iconst C (5) (5) (by decide) 13 rfl (by decide +kernel) ?_
    obtain ⟨r85, σ84, hcr85, hf⟩ := cl2_e hf
    refine v_cS C [.int x2, .int (0 : Int32), .int (5 : Int32)] [] (c_M_within G l σ79 x2 (0 : Int32) (5 : Int32) hcr85) 69 3 tw_1075 tw_1073 tw_1074 tw_10 hd_M_within rfl ⟨(Nat.le_of_ble_eq_true rfl), (Nat.le_of_ble_eq_true rfl)⟩ ⟨(Nat.le_of_ble_eq_true rfl), (Nat.le_of_ble_eq_true rfl)⟩ (Nat.le_of_ble_eq_true rfl) rfl 16 rfl (by decide +kernel) [.int r85] rfl ?_
    refine v_if_ne C 26 19 rfl (by decide +kernel) (fun h86 => ?_) (fun h86 => ?_)
    · have hf := ite2_f hf h86
      refine v_aload_n C 0 0 rfl 27 rfl (by decide +kernel) ?_
      obtain ⟨b87, hb87, hf⟩ := drf_e hf
      obtain ⟨hk_b87, hf⟩ := grd_e hf
      refine v_getR C 9 0 hb87 rfl nin_9 (ns_kd_lt hk_a0 (by decide)) hk_a0 (by decide) (by decide) rfl 7 tw_975 rfl 30 rfl (by decide +kernel) ?_
      refine v_iload_n C 1 1 rfl 31 rfl (by decide +kernel) ?_
      obtain ⟨hi88, hf⟩ := grd_e hf
      refine v_iald C (ns_kd_lt hk_b87 (by decide)) hk_b87 hi88 32 rfl (by decide +kernel) ?_
      refine v_bipush C (10) (10) (by decide) 34 rfl (by decide +kernel) ?_
      refine v_isub C 35 rfl (by decide +kernel) ?_
      obtain ⟨z89, hz89, hf⟩ := bnd_e hf
      refine v_nmI hz89 ?_
      refine v_istore_n C 3 [(3, .int z89), (0, .ref (G.1 + a0)), (1, .int x1), (2, .int x2)] (by decide) rfl 36 rfl (by decide +kernel) ?_
      refine v_aload_n C 0 1 rfl 37 rfl (by decide +kernel) ?_
      refine v_iload_n C 1 2 rfl 38 rfl (by decide +kernel) ?_
      obtain ⟨r91, σ90, hcr91, hf⟩ := cl2_e hf
      refine v_cV C 9 rfl (ns_kd_lt hk_a0 (by decide)) hk_a0 (by decide) [.int x1] [] (c_M_isRow G l σ84 a0 x1 hcr91) 80 1 tw_1095 tw_1092 tw_1094 ts_75 tw_10 hd_M_isRow rfl ⟨(Nat.le_of_ble_eq_true rfl), (Nat.le_of_ble_eq_true rfl)⟩ ⟨(Nat.le_of_ble_eq_true rfl), (Nat.le_of_ble_eq_true rfl)⟩ (Nat.le_of_ble_eq_true rfl) rfl 41 rfl (by decide +kernel) [.int r91] rfl ?_
      refine v_if_ne C 61 44 rfl (by decide +kernel) (fun h92 => ?_) (fun h92 => ?_)
      · have hf := ite2_f hf h92
        refine v_aload_n C 0 1 rfl 62 rfl (by decide +kernel) ?_
        refine v_bipush C (-3) (-3) (by decide) 64 rfl (by decide +kernel) ?_
        obtain ⟨r94, σ93, hcr94, hf⟩ := cl2_e hf
        refine v_cV C 9 rfl (ns_kd_lt hk_a0 (by decide)) hk_a0 (by decide) [.int (-3 : Int32)] [] (c_M_no G l σ90 a0 (-3 : Int32) hcr94) 73 1 tw_1079 tw_1076 tw_1078 ts_73 tw_10 hd_M_no rfl ⟨(Nat.le_of_ble_eq_true rfl), (Nat.le_of_ble_eq_true rfl)⟩ ⟨(Nat.le_of_ble_eq_true rfl), (Nat.le_of_ble_eq_true rfl)⟩ (Nat.le_of_ble_eq_true rfl) rfl 67 rfl (by decide +kernel) [.int r94] rfl ?_
        obtain ⟨rfl, rfl⟩ := ret_e hf
        exact v_iret C hr (by decide +kernel)
      · have hf := ite2_t hf h92
        refine v_iload_n C 3 0 rfl 45 rfl (by decide +kernel) ?_
        refine v_if_lt C 68 48 rfl (by decide +kernel) (fun h95 => ?_) (fun h95 => ?_)
        · have hf := ite2_t hf h95
          refine v_sub [1, 3, 0] rfl ?_
          exact t_M_says_68 G l C hr  σ90 a0 x2 z89 hk_a0 hf
        · have hf := ite2_f hf h95
          refine v_aload_n C 0 1 rfl 49 rfl (by decide +kernel) ?_
          obtain ⟨b96, hb96, hf⟩ := drf_e hf
          obtain ⟨hk_b96, hf⟩ := grd_e hf
          refine v_getR C 9 6 hb96 rfl nin_9 (ns_kd_lt hk_a0 (by decide)) hk_a0 (by decide) (by decide) rfl 23 tw_981 rfl 52 rfl (by decide +kernel) ?_
          refine v_iload_n C 3 0 rfl 53 rfl (by decide +kernel) ?_
          obtain ⟨hi97, hf⟩ := grd_e hf
          refine v_iald C (ns_kd_lt hk_b96 (by decide)) hk_b96 hi97 54 rfl (by decide +kernel) ?_
          refine v_iload_n C 2 3 rfl 55 rfl (by decide +kernel) ?_
          obtain ⟨r99, σ98, hcr99, hf⟩ := cl2_e hf
          refine v_cS C [.int (σ90.1 b96 (ns_ix z89)), .int x2] [] (c_M_isUnder G l σ90 (σ90.1 b96 (ns_ix z89)) x2 hcr99) 91 2 tw_1118 tw_1116 tw_1117 tw_10 hd_M_isUnder rfl ⟨(Nat.le_of_ble_eq_true rfl), (Nat.le_of_ble_eq_true rfl)⟩ ⟨(Nat.le_of_ble_eq_true rfl), (Nat.le_of_ble_eq_true rfl)⟩ (Nat.le_of_ble_eq_true rfl) rfl 58 rfl (by decide +kernel) [.int r99] rfl ?_
          refine v_if_ne C 68 61 rfl (by decide +kernel) (fun h100 => ?_) (fun h100 => ?_)
          · have hf := ite2_f hf h100
            refine v_sub [1, 3, 0] rfl ?_
            exact t_M_says_68 G l C hr  σ98 a0 x2 z89 hk_a0 hf
          · have hf := ite2_t hf h100
            refine v_aload_n C 0 1 rfl 62 rfl (by decide +kernel) ?_
            refine v_bipush C (-3) (-3) (by decide) 64 rfl (by decide +kernel) ?_
            obtain ⟨r102, σ101, hcr102, hf⟩ := cl2_e hf
            refine v_cV C 9 rfl (ns_kd_lt hk_a0 (by decide)) hk_a0 (by decide) [.int (-3 : Int32)] [] (c_M_no G l σ98 a0 (-3 : Int32) hcr102) 73 1 tw_1079 tw_1076 tw_1078 ts_73 tw_10 hd_M_no rfl ⟨(Nat.le_of_ble_eq_true rfl), (Nat.le_of_ble_eq_true rfl)⟩ ⟨(Nat.le_of_ble_eq_true rfl), (Nat.le_of_ble_eq_true rfl)⟩ (Nat.le_of_ble_eq_true rfl) rfl 67 rfl (by decide +kernel) [.int r102] rfl ?_
            obtain ⟨rfl, rfl⟩ := ret_e hf
            exact v_iret C hr (by decide +kernel)
    · have hf := ite2_t hf h86
      refine v_aload_n C 0 0 rfl 20 rfl (by decide +kernel) ?_
      refine v_bipush C (-2) (-2) (by decide) 22 rfl (by decide +kernel) ?_
      obtain ⟨r104, σ103, hcr104, hf⟩ := cl2_e hf
      refine v_cV C 9 rfl (ns_kd_lt hk_a0 (by decide)) hk_a0 (by decide) [.int (-2 : Int32)] [] (c_M_no G l σ84 a0 (-2 : Int32) hcr104) 73 1 tw_1079 tw_1076 tw_1078 ts_73 tw_10 hd_M_no rfl ⟨(Nat.le_of_ble_eq_true rfl), (Nat.le_of_ble_eq_true rfl)⟩ ⟨(Nat.le_of_ble_eq_true rfl), (Nat.le_of_ble_eq_true rfl)⟩ (Nat.le_of_ble_eq_true rfl) rfl 25 rfl (by decide +kernel) [.int r104] rfl ?_
      obtain ⟨rfl, rfl⟩ := ret_e hf
      exact v_iret C hr (by decide +kernel)
theorem hd_M_says : (⟨"NinthStepModel", "says", "(II)I"⟩ : MethodName).cls = "NinthStepModel" ∧ (⟨"NinthStepModel", "says", "(II)I"⟩ : MethodName).cls ≠ "java/lang/invoke/MethodHandle" ∧ (⟨"NinthStepModel", "says", "(II)I"⟩ : MethodName).cls ≠ "java/lang/invoke/VarHandle" ∧ (parseMethodDescriptor (⟨"NinthStepModel", "says", "(II)I"⟩ : MethodName).desc).map (fun d => d.parameters.length) = some 2 := by decide +kernel
def g_M_highest_4  : Nat → ns_St → Nat → Int32 → Int32 → Option (Int32 × ns_St)
  | 0, _, _, _, _ => none
  | f + 1, σ, a0, x1, x2 => ite2 ((σ.1 a0 3) < x2) (some (x1, σ)) (drf (σ.2.2 a0 4) fun b8 => grd (ns_kd b8 = 10) <| grd (ns_in x2 (ns_ln b8)) <| ite2 ((σ.1 b8 (ns_ix x2)) = 0) (bnd (x2 + 1) fun z11 => (g_M_highest_4 f) σ a0 x1 z11) (bnd (x2 + 1) fun z12 => (g_M_highest_4 f) σ a0 x2 z12))
def g_M_highest (σ : ns_St) (a0 : Nat) : Option (Int32 × ns_St) := grd (ns_kd a0 = 9) <| g_M_highest_4 ns_F σ a0 (0 : Int32) (0 : Int32)
theorem t_M_highest_4 (G : ns_G) (l : Launch) {p : Program} {e : Env} {s : State} {m : MethodId} {args : Array Value} {below : List Frame} {meth : Method} {c : Code} (C : ns_Cx G p s m args meth c prog_11_method_18_code "NinthStepModel" 3) (hr : meth.sig.returnType = (some .int)) {r : Int32} {σ' : ns_St}  : ∀ (f : Nat) (σ : ns_St) (a0 : Nat) (x1 : Int32) (x2 : Int32) (hk_a0 : ns_kd a0 = 9), g_M_highest_4 f σ a0 x1 x2 = some (r, σ') → VV G p l e { frames := 0, cells := 0, slots := 0, locals := 0 } s m args below meth c 3 0 0 (MQ below (ns_Qc G (some (.int r)) ns_N σ') args s 0 0 (ns_A G)) ns_N σ 4 [(0, .ref (G.1 + a0)), (1, .int x1), (2, .int x2)] [] := by
  intro f
  induction f with
  | zero =>
    intro σ a0 x1 x2 hk_a0 hf
    cases hf
  | succ f ih =>
    intro σ a0 x1 x2 hk_a0 hf
    rw [g_M_highest_4] at hf
    refine v_iload_n C 2 2 rfl 5 rfl (by decide +kernel) ?_
    refine v_aload_n C 0 0 rfl 6 rfl (by decide +kernel) ?_
    refine v_getI C 9 3 rfl nin_9 (ns_kd_lt hk_a0 (by decide)) hk_a0 (by decide) (by decide) rfl 59 tw_978 rfl 9 rfl (by decide +kernel) ?_
    refine v_icmp_gt C 29 12 rfl (by decide +kernel) (fun h7 => ?_) (fun h7 => ?_)
    · have hf := ite2_t hf h7
      refine v_iload_n C 1 1 rfl 30 rfl (by decide +kernel) ?_
      obtain ⟨rfl, rfl⟩ := ret_e hf
      exact v_iret C hr (by decide +kernel)
    · have hf := ite2_f hf h7
      refine v_aload_n C 0 0 rfl 13 rfl (by decide +kernel) ?_
      obtain ⟨b8, hb8, hf⟩ := drf_e hf
      obtain ⟨hk_b8, hf⟩ := grd_e hf
      refine v_getR C 9 4 hb8 rfl nin_9 (ns_kd_lt hk_a0 (by decide)) hk_a0 (by decide) (by decide) rfl 20 tw_979 rfl 16 rfl (by decide +kernel) ?_
      refine v_iload_n C 2 2 rfl 17 rfl (by decide +kernel) ?_
      obtain ⟨hi9, hf⟩ := grd_e hf
      refine v_iald C (ns_kd_lt hk_b8 (by decide)) hk_b8 hi9 18 rfl (by decide +kernel) ?_
      refine v_if_eq C 23 21 rfl (by decide +kernel) (fun h10 => ?_) (fun h10 => ?_)
      · have hf := ite2_t hf h10
        obtain ⟨z11, hz11, hf⟩ := bnd_e hf
        refine v_iinc C 2 (1) 2 z11 rfl (by rw [hz11]; rfl) [(2, .int z11), (0, .ref (G.1 + a0)), (1, .int x1)] (by decide) rfl 26 rfl (by decide +kernel) ?_
        refine v_goto C 4 (by decide +kernel) ?_
        refine v_sub [1, 2, 0] rfl ?_
        exact ih σ a0 x1 z11 hk_a0 hf
      · have hf := ite2_f hf h10
        refine v_iload_n C 2 2 rfl 22 rfl (by decide +kernel) ?_
        refine v_istore_n C 1 [(1, .int x2), (0, .ref (G.1 + a0)), (2, .int x2)] (by decide) rfl 23 rfl (by decide +kernel) ?_
        obtain ⟨z12, hz12, hf⟩ := bnd_e hf
        refine v_iinc C 2 (1) 2 z12 rfl (by rw [hz12]; rfl) [(2, .int z12), (1, .int x2), (0, .ref (G.1 + a0))] (by decide) rfl 26 rfl (by decide +kernel) ?_
        refine v_goto C 4 (by decide +kernel) ?_
        refine v_sub [2, 1, 0] rfl ?_
        exact ih σ a0 x2 z12 hk_a0 hf
theorem c_M_highest (G : ns_G) (l : Launch) (σ : ns_St) (a0 : Nat) {r : Int32} {σ' : ns_St} (hf : g_M_highest σ a0 = some (r, σ')) : ns_ok G l ⟨"NinthStepModel", "highest", "()I"⟩ prog_11_method_18_code 3 (some .int) 0 0 0 0 [.ref (G.1 + a0)] ns_N σ (some (.int r)) ns_N σ' := by
  refine v_open (by decide) (Nat.le_of_ble_eq_true rfl) rfl ?_
  intro p e s m below meth c C hr _
  have C : ns_Cx G p s m _ meth c prog_11_method_18_code "NinthStepModel" 3 := C
  unfold g_M_highest at hf
  obtain ⟨hk_a0, hf⟩ := grd_e hf
  refine v_iconst C (0) (0) (by decide) 1 rfl (by decide +kernel) ?_
  refine v_istore_n C 1 [(1, .int (0 : Int32)), (0, .ref (G.1 + a0))] (by decide) rfl 2 rfl (by decide +kernel) ?_
  refine v_iconst C (0) (0) (by decide) 3 rfl (by decide +kernel) ?_
  refine v_istore_n C 2 [(2, .int (0 : Int32)), (1, .int (0 : Int32)), (0, .ref (G.1 + a0))] (by decide) rfl 4 rfl (by decide +kernel) ?_
  refine v_sub [2, 1, 0] rfl ?_
  exact t_M_highest_4 G l C hr  ns_F σ a0 (0 : Int32) (0 : Int32) hk_a0 hf
theorem hd_M_highest : (⟨"NinthStepModel", "highest", "()I"⟩ : MethodName).cls = "NinthStepModel" ∧ (⟨"NinthStepModel", "highest", "()I"⟩ : MethodName).cls ≠ "java/lang/invoke/MethodHandle" ∧ (⟨"NinthStepModel", "highest", "()I"⟩ : MethodName).cls ≠ "java/lang/invoke/VarHandle" ∧ (parseMethodDescriptor (⟨"NinthStepModel", "highest", "()I"⟩ : MethodName).desc).map (fun d => d.parameters.length) = some 0 := by decide +kernel
def g_M_longer_7  : Nat → ns_St → Nat → Int32 → Int32 → Option (Unit × ns_St)
  | 0, _, _, _, _ => none
  | f + 1, σ, a0, x1, x2 => ite2 (x1 < x2) (bnd (ns_pI σ a0 3 x1) fun σ9 => some ((), σ9)) (drf (σ.2.2 a0 4) fun b10 => grd (ns_kd b10 = 10) <| grd (ns_in x2 (ns_ln b10)) <| bnd (ns_pI σ b10 (ns_ix x2) (0 : Int32)) fun σ12 => bnd (x2 + 1) fun z13 => (g_M_longer_7 f) σ12 a0 x1 z13)
def g_M_longer (σ : ns_St) (a0 : Nat) (x1 : Int32) : Option (Unit × ns_St) := grd (ns_kd a0 = 9) <| bnd ((σ.1 a0 3) + (1 : Int32)) fun z14 => g_M_longer_7 ns_F σ a0 x1 z14
theorem t_M_longer_7 (G : ns_G) (l : Launch) {p : Program} {e : Env} {s : State} {m : MethodId} {args : Array Value} {below : List Frame} {meth : Method} {c : Code} (C : ns_Cx G p s m args meth c prog_11_method_19_code "NinthStepModel" 3) (hr : meth.sig.returnType = none) {r : Unit} {σ' : ns_St}  : ∀ (f : Nat) (σ : ns_St) (a0 : Nat) (x1 : Int32) (x2 : Int32) (hk_a0 : ns_kd a0 = 9), g_M_longer_7 f σ a0 x1 x2 = some (r, σ') → VV G p l e { frames := 0, cells := 0, slots := 0, locals := 0 } s m args below meth c 3 0 0 (MQ below (ns_Qc G none ns_N σ') args s 0 0 (ns_A G)) ns_N σ 7 [(0, .ref (G.1 + a0)), (1, .int x1), (2, .int x2)] [] := by
  intro f
  induction f with
  | zero =>
    intro σ a0 x1 x2 hk_a0 hf
    cases hf
  | succ f ih =>
    intro σ a0 x1 x2 hk_a0 hf
    rw [g_M_longer_7] at hf
    refine v_iload_n C 2 2 rfl 8 rfl (by decide +kernel) ?_
    refine v_iload_n C 1 1 rfl 9 rfl (by decide +kernel) ?_
    refine v_icmp_gt C 25 12 rfl (by decide +kernel) (fun h8 => ?_) (fun h8 => ?_)
    · have hf := ite2_t hf h8
      refine v_aload_n C 0 0 rfl 26 rfl (by decide +kernel) ?_
      refine v_iload_n C 1 1 rfl 27 rfl (by decide +kernel) ?_
      obtain ⟨σ9, hσ9, hf⟩ := bnd_e hf
      refine v_putI C 9 3 hσ9 rfl nin_9 ny_9 nty_9 nnm_9 (ns_kd_lt hk_a0 (by decide)) hk_a0 (by decide) (by decide) rfl rfl rfl rfl 59 tw_978 rfl 30 rfl (by decide +kernel) ?_
      obtain ⟨rfl, rfl⟩ := ret_e hf
      exact v_vret C hr (by decide +kernel)
    · have hf := ite2_f hf h8
      refine v_aload_n C 0 0 rfl 13 rfl (by decide +kernel) ?_
      obtain ⟨b10, hb10, hf⟩ := drf_e hf
      obtain ⟨hk_b10, hf⟩ := grd_e hf
      refine v_getR C 9 4 hb10 rfl nin_9 (ns_kd_lt hk_a0 (by decide)) hk_a0 (by decide) (by decide) rfl 20 tw_979 rfl 16 rfl (by decide +kernel) ?_
      refine v_iload_n C 2 2 rfl 17 rfl (by decide +kernel) ?_
      refine v_iconst C (0) (0) (by decide) 18 rfl (by decide +kernel) ?_
      obtain ⟨hi11, hf⟩ := grd_e hf
      obtain ⟨σ12, hσ12, hf⟩ := bnd_e hf
      refine v_iast C hσ12 (ns_kd_lt hk_b10 (by decide)) hk_b10 hi11 19 rfl (by decide +kernel) ?_
      obtain ⟨z13, hz13, hf⟩ := bnd_e hf
      refine v_iinc C 2 (1) 2 z13 rfl (by rw [hz13]; rfl) [(2, .int z13), (0, .ref (G.1 + a0)), (1, .int x1)] (by decide) rfl 22 rfl (by decide +kernel) ?_
      refine v_goto C 7 (by decide +kernel) ?_
      refine v_sub [1, 2, 0] rfl ?_
      exact ih σ12 a0 x1 z13 hk_a0 hf
theorem c_M_longer (G : ns_G) (l : Launch) (σ : ns_St) (a0 : Nat) (x1 : Int32) {r : Unit} {σ' : ns_St} (hf : g_M_longer σ a0 x1 = some (r, σ')) : ns_ok G l ⟨"NinthStepModel", "longer", "(I)V"⟩ prog_11_method_19_code 3 none 0 0 0 0 [.ref (G.1 + a0), .int x1] ns_N σ none ns_N σ' := by
  refine v_open (by decide) (Nat.le_of_ble_eq_true rfl) rfl ?_
  intro p e s m below meth c C hr _
  have C : ns_Cx G p s m _ meth c prog_11_method_19_code "NinthStepModel" 3 := C
  unfold g_M_longer at hf
  obtain ⟨hk_a0, hf⟩ := grd_e hf
  refine v_aload_n C 0 0 rfl 1 rfl (by decide +kernel) ?_
  refine v_getI C 9 3 rfl nin_9 (ns_kd_lt hk_a0 (by decide)) hk_a0 (by decide) (by decide) rfl 59 tw_978 rfl 4 rfl (by decide +kernel) ?_
  refine v_iconst C (1) (1) (by decide) 5 rfl (by decide +kernel) ?_
  refine v_iadd C 6 rfl (by decide +kernel) ?_
  obtain ⟨z14, hz14, hf⟩ := bnd_e hf
  refine v_nmI hz14 ?_
  refine v_istore_n C 2 [(2, .int z14), (0, .ref (G.1 + a0)), (1, .int x1)] (by decide) rfl 7 rfl (by decide +kernel) ?_
  refine v_sub [1, 2, 0] rfl ?_
  exact t_M_longer_7 G l C hr  ns_F σ a0 x1 z14 hk_a0 hf
theorem hd_M_longer : (⟨"NinthStepModel", "longer", "(I)V"⟩ : MethodName).cls = "NinthStepModel" ∧ (⟨"NinthStepModel", "longer", "(I)V"⟩ : MethodName).cls ≠ "java/lang/invoke/MethodHandle" ∧ (⟨"NinthStepModel", "longer", "(I)V"⟩ : MethodName).cls ≠ "java/lang/invoke/VarHandle" ∧ (parseMethodDescriptor (⟨"NinthStepModel", "longer", "(I)V"⟩ : MethodName).desc).map (fun d => d.parameters.length) = some 1 := by decide +kernel
def g_M_length (σ : ns_St) (a0 : Nat) (x1 : Int32) : Option (Int32 × ns_St) := grd (ns_kd a0 = 9) <| cl2 (g_M_within σ x1 (1 : Int32) (60 : Int32)) fun r18 σ17 => ite2 (r18 = 0) (cl2 (g_M_no σ17 a0 (-2 : Int32)) fun r32 σ31 => some (r32, σ31)) (ite2 (0 < (σ17.1 a0 5)) (cl2 (g_M_no σ17 a0 (-5 : Int32)) fun r22 σ21 => some (r22, σ21)) (cl2 (g_M_highest σ17 a0) fun r24 σ23 => ite2 (r24 ≤ x1) (bnd (σ23.1 a0 3) fun z26 => cl2 (g_M_longer σ23 a0 x1) fun r28 σ27 => some (z26, σ27)) (cl2 (g_M_no σ23 a0 (-5 : Int32)) fun r30 σ29 => some (r30, σ29))))
theorem c_M_length (G : ns_G) (l : Launch) (σ : ns_St) (a0 : Nat) (x1 : Int32) {r : Int32} {σ' : ns_St} (hf : g_M_length σ a0 x1 = some (r, σ')) : ns_ok G l ⟨"NinthStepModel", "length", "(I)I"⟩ prog_11_method_20_code 3 (some .int) 1 22 0 0 [.ref (G.1 + a0), .int x1] ns_N σ (some (.int r)) ns_N σ' := by
  refine v_open (by decide) (Nat.le_of_ble_eq_true rfl) rfl ?_
  intro p e s m below meth c C hr _
  have C : ns_Cx G p s m _ meth c prog_11_method_20_code "NinthStepModel" 3 := C
  unfold g_M_length at hf
  obtain ⟨hk_a0, hf⟩ := grd_e hf
  refine v_iload_n C 1 1 rfl 1 rfl (by decide +kernel) ?_
  refine v_iconst C (1) (1) (by decide) 2 rfl (by decide +kernel) ?_
  refine v_bipush C (60) (60) (by decide) 4 rfl (by decide +kernel) ?_
  obtain ⟨r18, σ17, hcr18, hf⟩ := cl2_e hf
  refine v_cS C [.int x1, .int (1 : Int32), .int (60 : Int32)] [] (c_M_within G l σ x1 (1 : Int32) (60 : Int32) hcr18) 69 3 tw_1075 tw_1073 tw_1074 tw_10 hd_M_within rfl ⟨(Nat.le_of_ble_eq_true rfl), (Nat.le_of_ble_eq_true rfl)⟩ ⟨(Nat.le_of_ble_eq_true rfl), (Nat.le_of_ble_eq_true rfl)⟩ (Nat.le_of_ble_eq_true rfl) rfl 7 rfl (by decide +kernel) [.int r18] rfl ?_
  refine v_if_ne C 17 10 rfl (by decide +kernel) (fun h19 => ?_) (fun h19 => ?_)
  · have hf := ite2_f hf h19
    refine v_aload_n C 0 0 rfl 18 rfl (by decide +kernel) ?_
    refine v_getI C 9 5 rfl nin_9 (ns_kd_lt hk_a0 (by decide)) hk_a0 (by decide) (by decide) rfl 66 tw_980 rfl 21 rfl (by decide +kernel) ?_
    refine v_if_gt C 32 24 rfl (by decide +kernel) (fun h20 => ?_) (fun h20 => ?_)
    · have hf := ite2_t hf h20
      refine v_aload_n C 0 0 rfl 33 rfl (by decide +kernel) ?_
      refine v_bipush C (-5) (-5) (by decide) 35 rfl (by decide +kernel) ?_
      obtain ⟨r22, σ21, hcr22, hf⟩ := cl2_e hf
      refine v_cV C 9 rfl (ns_kd_lt hk_a0 (by decide)) hk_a0 (by decide) [.int (-5 : Int32)] [] (c_M_no G l σ17 a0 (-5 : Int32) hcr22) 73 1 tw_1079 tw_1076 tw_1078 ts_73 tw_10 hd_M_no rfl ⟨(Nat.le_of_ble_eq_true rfl), (Nat.le_of_ble_eq_true rfl)⟩ ⟨(Nat.le_of_ble_eq_true rfl), (Nat.le_of_ble_eq_true rfl)⟩ (Nat.le_of_ble_eq_true rfl) rfl 38 rfl (by decide +kernel) [.int r22] rfl ?_
      obtain ⟨rfl, rfl⟩ := ret_e hf
      exact v_iret C hr (by decide +kernel)
    · have hf := ite2_f hf h20
      refine v_aload_n C 0 0 rfl 25 rfl (by decide +kernel) ?_
      obtain ⟨r24, σ23, hcr24, hf⟩ := cl2_e hf
      refine v_cV C 9 rfl (ns_kd_lt hk_a0 (by decide)) hk_a0 (by decide) [] [] (c_M_highest G l σ17 a0 hcr24) 101 0 tw_1138 tw_1135 tw_1137 ts_80 tw_10 hd_M_highest rfl ⟨(Nat.le_of_ble_eq_true rfl), (Nat.le_of_ble_eq_true rfl)⟩ ⟨(Nat.le_of_ble_eq_true rfl), (Nat.le_of_ble_eq_true rfl)⟩ (Nat.le_of_ble_eq_true rfl) rfl 28 rfl (by decide +kernel) [.int r24] rfl ?_
      refine v_iload_n C 1 1 rfl 29 rfl (by decide +kernel) ?_
      refine v_icmp_le C 39 32 rfl (by decide +kernel) (fun h25 => ?_) (fun h25 => ?_)
      · have hf := ite2_t hf h25
        refine v_aload_n C 0 0 rfl 40 rfl (by decide +kernel) ?_
        refine v_getI C 9 3 rfl nin_9 (ns_kd_lt hk_a0 (by decide)) hk_a0 (by decide) (by decide) rfl 59 tw_978 rfl 43 rfl (by decide +kernel) ?_
        obtain ⟨z26, hz26, hf⟩ := bnd_e hf
        refine v_nmI hz26 ?_
        refine v_istore_n C 2 [(2, .int z26), (0, .ref (G.1 + a0)), (1, .int x1)] (by decide) rfl 44 rfl (by decide +kernel) ?_
        refine v_aload_n C 0 1 rfl 45 rfl (by decide +kernel) ?_
        refine v_iload_n C 1 2 rfl 46 rfl (by decide +kernel) ?_
        obtain ⟨r28, σ27, hcr28, hf⟩ := cl2_e hf
        refine v_cV C 9 rfl (ns_kd_lt hk_a0 (by decide)) hk_a0 (by decide) [.int x1] [] (c_M_longer G l σ23 a0 x1 hcr28) 105 1 tw_1142 tw_1139 tw_1141 ts_81 tw_10 hd_M_longer rfl ⟨(Nat.le_of_ble_eq_true rfl), (Nat.le_of_ble_eq_true rfl)⟩ ⟨(Nat.le_of_ble_eq_true rfl), (Nat.le_of_ble_eq_true rfl)⟩ (Nat.le_of_ble_eq_true rfl) rfl 49 rfl (by decide +kernel) [] rfl ?_
        refine v_iload_n C 2 0 rfl 50 rfl (by decide +kernel) ?_
        obtain ⟨rfl, rfl⟩ := ret_e hf
        exact v_iret C hr (by decide +kernel)
      · have hf := ite2_f hf h25
        refine v_aload_n C 0 0 rfl 33 rfl (by decide +kernel) ?_
        refine v_bipush C (-5) (-5) (by decide) 35 rfl (by decide +kernel) ?_
        obtain ⟨r30, σ29, hcr30, hf⟩ := cl2_e hf
        refine v_cV C 9 rfl (ns_kd_lt hk_a0 (by decide)) hk_a0 (by decide) [.int (-5 : Int32)] [] (c_M_no G l σ23 a0 (-5 : Int32) hcr30) 73 1 tw_1079 tw_1076 tw_1078 ts_73 tw_10 hd_M_no rfl ⟨(Nat.le_of_ble_eq_true rfl), (Nat.le_of_ble_eq_true rfl)⟩ ⟨(Nat.le_of_ble_eq_true rfl), (Nat.le_of_ble_eq_true rfl)⟩ (Nat.le_of_ble_eq_true rfl) rfl 38 rfl (by decide +kernel) [.int r30] rfl ?_
        obtain ⟨rfl, rfl⟩ := ret_e hf
        exact v_iret C hr (by decide +kernel)
  · have hf := ite2_t hf h19
    refine v_aload_n C 0 0 rfl 11 rfl (by decide +kernel) ?_
    refine v_bipush C (-2) (-2) (by decide) 13 rfl (by decide +kernel) ?_
    obtain ⟨r32, σ31, hcr32, hf⟩ := cl2_e hf
    refine v_cV C 9 rfl (ns_kd_lt hk_a0 (by decide)) hk_a0 (by decide) [.int (-2 : Int32)] [] (c_M_no G l σ17 a0 (-2 : Int32) hcr32) 73 1 tw_1079 tw_1076 tw_1078 ts_73 tw_10 hd_M_no rfl ⟨(Nat.le_of_ble_eq_true rfl), (Nat.le_of_ble_eq_true rfl)⟩ ⟨(Nat.le_of_ble_eq_true rfl), (Nat.le_of_ble_eq_true rfl)⟩ (Nat.le_of_ble_eq_true rfl) rfl 16 rfl (by decide +kernel) [.int r32] rfl ?_
    obtain ⟨rfl, rfl⟩ := ret_e hf
    exact v_iret C hr (by decide +kernel)
theorem hd_M_length : (⟨"NinthStepModel", "length", "(I)I"⟩ : MethodName).cls = "NinthStepModel" ∧ (⟨"NinthStepModel", "length", "(I)I"⟩ : MethodName).cls ≠ "java/lang/invoke/MethodHandle" ∧ (⟨"NinthStepModel", "length", "(I)I"⟩ : MethodName).cls ≠ "java/lang/invoke/VarHandle" ∧ (parseMethodDescriptor (⟨"NinthStepModel", "length", "(I)I"⟩ : MethodName).desc).map (fun d => d.parameters.length) = some 1 := by decide +kernel
def g_M_isPlace (σ : ns_St) (a0 : Nat) (x1 : Int32) : Option (Int32 × ns_St) := grd (ns_kd a0 = 9) <| cl2 (g_M_within σ x1 (0 : Int32) (σ.1 a0 3)) fun r5 σ4 => grd (r5 = 0 ∨ r5 = 1) <| some (r5, σ4)
theorem c_M_isPlace (G : ns_G) (l : Launch) (σ : ns_St) (a0 : Nat) (x1 : Int32) {r : Int32} {σ' : ns_St} (hf : g_M_isPlace σ a0 x1 = some (r, σ')) : ns_ok G l ⟨"NinthStepModel", "isPlace", "(I)Z"⟩ prog_11_method_5_code 2 (some .boolean) 1 22 0 0 [.ref (G.1 + a0), .int x1] ns_N σ (some (.int r)) ns_N σ' := by
  refine v_open (by decide) (Nat.le_of_ble_eq_true rfl) rfl ?_
  intro p e s m below meth c C hr _
  have C : ns_Cx G p s m _ meth c prog_11_method_5_code "NinthStepModel" 2 := C
  unfold g_M_isPlace at hf
  obtain ⟨hk_a0, hf⟩ := grd_e hf
  refine v_iload_n C 1 1 rfl 1 rfl (by decide +kernel) ?_
  refine v_iconst C (0) (0) (by decide) 2 rfl (by decide +kernel) ?_
  refine v_aload_n C 0 0 rfl 3 rfl (by decide +kernel) ?_
  refine v_getI C 9 3 rfl nin_9 (ns_kd_lt hk_a0 (by decide)) hk_a0 (by decide) (by decide) rfl 59 tw_978 rfl 6 rfl (by decide +kernel) ?_
  obtain ⟨r5, σ4, hcr5, hf⟩ := cl2_e hf
  refine v_cS C [.int x1, .int (0 : Int32), .int (σ.1 a0 3)] [] (c_M_within G l σ x1 (0 : Int32) (σ.1 a0 3) hcr5) 69 3 tw_1075 tw_1073 tw_1074 tw_10 hd_M_within rfl ⟨(Nat.le_of_ble_eq_true rfl), (Nat.le_of_ble_eq_true rfl)⟩ ⟨(Nat.le_of_ble_eq_true rfl), (Nat.le_of_ble_eq_true rfl)⟩ (Nat.le_of_ble_eq_true rfl) rfl 9 rfl (by decide +kernel) [.int r5] rfl ?_
  obtain ⟨hz6, hf⟩ := grd_e hf
  obtain ⟨rfl, rfl⟩ := ret_e hf
  exact v_zret C hr (ns_z01 hz6) (by decide +kernel)
theorem hd_M_isPlace : (⟨"NinthStepModel", "isPlace", "(I)Z"⟩ : MethodName).cls = "NinthStepModel" ∧ (⟨"NinthStepModel", "isPlace", "(I)Z"⟩ : MethodName).cls ≠ "java/lang/invoke/MethodHandle" ∧ (⟨"NinthStepModel", "isPlace", "(I)Z"⟩ : MethodName).cls ≠ "java/lang/invoke/VarHandle" ∧ (parseMethodDescriptor (⟨"NinthStepModel", "isPlace", "(I)Z"⟩ : MethodName).desc).map (fun d => d.parameters.length) = some 1 := by decide +kernel
def g_M_canBe (σ : ns_St) (a0 : Nat) (x1 : Int32) (x2 : Int32) : Option (Int32 × ns_St) := grd (ns_kd a0 = 9) <| ite2 (x2 = (4 : Int32)) (cl2 (g_M_isThere σ a0 x1 (8 : Int32)) fun r15 σ14 => ite2 (r15 = 0) (some ((1 : Int32), σ14)) (some ((0 : Int32), σ14))) (ite2 (x2 = (8 : Int32)) (cl2 (g_M_isThere σ a0 x1 (4 : Int32)) fun r12 σ11 => ite2 (r12 = 0) (some ((1 : Int32), σ11)) (some ((0 : Int32), σ11))) (some ((1 : Int32), σ)))
theorem c_M_canBe (G : ns_G) (l : Launch) (σ : ns_St) (a0 : Nat) (x1 : Int32) (x2 : Int32) {r : Int32} {σ' : ns_St} (hf : g_M_canBe σ a0 x1 x2 = some (r, σ')) : ns_ok G l ⟨"NinthStepModel", "canBe", "(II)Z"⟩ prog_11_method_21_code 3 (some .boolean) 1 22 0 0 [.ref (G.1 + a0), .int x1, .int x2] ns_N σ (some (.int r)) ns_N σ' := by
  refine v_open (by decide) (Nat.le_of_ble_eq_true rfl) rfl ?_
  intro p e s m below meth c C hr _
  have C : ns_Cx G p s m _ meth c prog_11_method_21_code "NinthStepModel" 3 := C
  unfold g_M_canBe at hf
  obtain ⟨hk_a0, hf⟩ := grd_e hf
  refine v_iload_n C 2 2 rfl 1 rfl (by decide +kernel) ?_
  refine v_iconst C (4) (4) (by decide) 2 rfl (by decide +kernel) ?_
  refine v_icmp_ne C 23 5 rfl (by decide +kernel) (fun h9 => ?_) (fun h9 => ?_)
  · have hf := ite2_f hf h9
    refine v_iload_n C 2 2 rfl 24 rfl (by decide +kernel) ?_
    refine v_bipush C (8) (8) (by decide) 26 rfl (by decide +kernel) ?_
    refine v_icmp_ne C 38 29 rfl (by decide +kernel) (fun h10 => ?_) (fun h10 => ?_)
    · have hf := ite2_f hf h10
      refine v_iconst C (1) (1) (by decide) 39 rfl (by decide +kernel) ?_
      refine v_goto C 43 (by decide +kernel) ?_
      obtain ⟨rfl, rfl⟩ := ret_e hf
      exact v_zret C hr rfl (by decide +kernel)
    · have hf := ite2_t hf h10
      refine v_aload_n C 0 0 rfl 30 rfl (by decide +kernel) ?_
      refine v_iload_n C 1 1 rfl 31 rfl (by decide +kernel) ?_
      refine v_iconst C (4) (4) (by decide) 32 rfl (by decide +kernel) ?_
      obtain ⟨r12, σ11, hcr12, hf⟩ := cl2_e hf
      refine v_cV C 9 rfl (ns_kd_lt hk_a0 (by decide)) hk_a0 (by decide) [.int x1, .int (4 : Int32)] [] (c_M_isThere G l σ a0 x1 (4 : Int32) hcr12) 87 2 tw_1130 tw_1127 tw_1129 ts_79 tw_10 hd_M_isThere rfl ⟨(Nat.le_of_ble_eq_true rfl), (Nat.le_of_ble_eq_true rfl)⟩ ⟨(Nat.le_of_ble_eq_true rfl), (Nat.le_of_ble_eq_true rfl)⟩ (Nat.le_of_ble_eq_true rfl) rfl 35 rfl (by decide +kernel) [.int r12] rfl ?_
      refine v_if_ne C 42 38 rfl (by decide +kernel) (fun h13 => ?_) (fun h13 => ?_)
      · have hf := ite2_f hf h13
        refine v_iconst C (0) (0) (by decide) 43 rfl (by decide +kernel) ?_
        obtain ⟨rfl, rfl⟩ := ret_e hf
        exact v_zret C hr rfl (by decide +kernel)
      · have hf := ite2_t hf h13
        refine v_iconst C (1) (1) (by decide) 39 rfl (by decide +kernel) ?_
        refine v_goto C 43 (by decide +kernel) ?_
        obtain ⟨rfl, rfl⟩ := ret_e hf
        exact v_zret C hr rfl (by decide +kernel)
  · have hf := ite2_t hf h9
    refine v_aload_n C 0 0 rfl 6 rfl (by decide +kernel) ?_
    refine v_iload_n C 1 1 rfl 7 rfl (by decide +kernel) ?_
    refine v_bipush C (8) (8) (by decide) 9 rfl (by decide +kernel) ?_
    obtain ⟨r15, σ14, hcr15, hf⟩ := cl2_e hf
    refine v_cV C 9 rfl (ns_kd_lt hk_a0 (by decide)) hk_a0 (by decide) [.int x1, .int (8 : Int32)] [] (c_M_isThere G l σ a0 x1 (8 : Int32) hcr15) 87 2 tw_1130 tw_1127 tw_1129 ts_79 tw_10 hd_M_isThere rfl ⟨(Nat.le_of_ble_eq_true rfl), (Nat.le_of_ble_eq_true rfl)⟩ ⟨(Nat.le_of_ble_eq_true rfl), (Nat.le_of_ble_eq_true rfl)⟩ (Nat.le_of_ble_eq_true rfl) rfl 12 rfl (by decide +kernel) [.int r15] rfl ?_
    refine v_if_ne C 19 15 rfl (by decide +kernel) (fun h16 => ?_) (fun h16 => ?_)
    · have hf := ite2_f hf h16
      refine v_iconst C (0) (0) (by decide) 20 rfl (by decide +kernel) ?_
      refine v_goto C 43 (by decide +kernel) ?_
      obtain ⟨rfl, rfl⟩ := ret_e hf
      exact v_zret C hr rfl (by decide +kernel)
    · have hf := ite2_t hf h16
      refine v_iconst C (1) (1) (by decide) 16 rfl (by decide +kernel) ?_
      refine v_goto C 43 (by decide +kernel) ?_
      obtain ⟨rfl, rfl⟩ := ret_e hf
      exact v_zret C hr rfl (by decide +kernel)
theorem hd_M_canBe : (⟨"NinthStepModel", "canBe", "(II)Z"⟩ : MethodName).cls = "NinthStepModel" ∧ (⟨"NinthStepModel", "canBe", "(II)Z"⟩ : MethodName).cls ≠ "java/lang/invoke/MethodHandle" ∧ (⟨"NinthStepModel", "canBe", "(II)Z"⟩ : MethodName).cls ≠ "java/lang/invoke/VarHandle" ∧ (parseMethodDescriptor (⟨"NinthStepModel", "canBe", "(II)Z"⟩ : MethodName).desc).map (fun d => d.parameters.length) = some 2 := by decide +kernel
def g_M_put_50  (σ : ns_St) (a0 : Nat) (x1 : Int32) (x3 : Int32) (x4 : Int32) : Option (Int32 × ns_St) := cl2 (g_M_isThere σ a0 x1 x4) fun r26 σ25 => ite2 (r26 = x3) (some ((0 : Int32), σ25)) (drf (σ25.2.2 a0 4) fun b28 => grd (ns_kd b28 = 10) <| grd (ns_in x1 (ns_ln b28)) <| grd (ns_in x1 (ns_ln b28)) <| bnd (ns_pI σ25 b28 (ns_ix x1) ((σ25.1 b28 (ns_ix x1)) ^^^ x4)) fun σ31 => some ((1 : Int32), σ31))
def g_M_put (σ : ns_St) (a0 : Nat) (x1 : Int32) (x2 : Int32) (x3 : Int32) : Option (Int32 × ns_St) := grd (ns_kd a0 = 9) <| cl2 (g_M_isPlace σ a0 x1) fun r33 σ32 => ite2 (r33 = 0) (cl2 (g_M_no σ32 a0 (-2 : Int32)) fun r36 σ35 => some (r36, σ35)) (cl2 (g_M_within σ32 x2 (0 : Int32) (3 : Int32)) fun r38 σ37 => ite2 (r38 = 0) (cl2 (g_M_no σ37 a0 (-2 : Int32)) fun r48 σ47 => some (r48, σ47)) (bnd ((1 : Int32) <<< (x2 &&& 31)) fun z40 => ite2 (x3 = 0) (g_M_put_50 σ37 a0 x1 x3 z40) (cl2 (g_M_canBe σ37 a0 x1 z40) fun r43 σ42 => ite2 (r43 = 0) (cl2 (g_M_no σ42 a0 (-5 : Int32)) fun r46 σ45 => some (r46, σ45)) (g_M_put_50 σ42 a0 x1 x3 z40))))
theorem t_M_put_50 (G : ns_G) (l : Launch) {p : Program} {e : Env} {s : State} {m : MethodId} {args : Array Value} {below : List Frame} {meth : Method} {c : Code} (C : ns_Cx G p s m args meth c prog_11_method_22_code "NinthStepModel" 5) (hr : meth.sig.returnType = (some .int)) {r : Int32} {σ' : ns_St}  (σ : ns_St) (a0 : Nat) (x1 : Int32) (x3 : Int32) (x4 : Int32) (hk_a0 : ns_kd a0 = 9) (hf : g_M_put_50 σ a0 x1 x3 x4 = some (r, σ')) : VV G p l e { frames := 2, cells := 0, slots := 0, locals := 44 } s m args below meth c 5 0 0 (MQ below (ns_Qc G (some (.int r)) ns_N σ') args s 0 0 (ns_A G)) ns_N σ 50 [(0, .ref (G.1 + a0)), (1, .int x1), (3, .int x3), (4, .int x4)] [] := by
  unfold g_M_put_50 at hf
  refine v_aload_n C 0 0 rfl 51 rfl (by decide +kernel) ?_
  refine v_iload_n C 1 1 rfl 52 rfl (by decide +kernel) ?_
  refine v_iload C 4 3 rfl 54 rfl (by decide +kernel) ?_
  obtain ⟨r26, σ25, hcr26, hf⟩ := cl2_e hf
  refine v_cV C 9 rfl (ns_kd_lt hk_a0 (by decide)) hk_a0 (by decide) [.int x1, .int x4] [] (c_M_isThere G l σ a0 x1 x4 hcr26) 87 2 tw_1130 tw_1127 tw_1129 ts_79 tw_10 hd_M_isThere rfl ⟨(Nat.le_of_ble_eq_true rfl), (Nat.le_of_ble_eq_true rfl)⟩ ⟨(Nat.le_of_ble_eq_true rfl), (Nat.le_of_ble_eq_true rfl)⟩ (Nat.le_of_ble_eq_true rfl) rfl 57 rfl (by decide +kernel) [.int r26] rfl ?_
  refine v_iload_n C 3 2 rfl 58 rfl (by decide +kernel) ?_
  refine v_icmp_ne C 63 61 rfl (by decide +kernel) (fun h27 => ?_) (fun h27 => ?_)
  · have hf := ite2_f hf h27
    refine v_aload_n C 0 0 rfl 64 rfl (by decide +kernel) ?_
    obtain ⟨b28, hb28, hf⟩ := drf_e hf
    obtain ⟨hk_b28, hf⟩ := grd_e hf
    refine v_getR C 9 4 hb28 rfl nin_9 (ns_kd_lt hk_a0 (by decide)) hk_a0 (by decide) (by decide) rfl 20 tw_979 rfl 67 rfl (by decide +kernel) ?_
    refine v_iload_n C 1 1 rfl 68 rfl (by decide +kernel) ?_
    refine v_dup2_11 C rfl rfl 69 rfl (by decide +kernel) ?_
    obtain ⟨hi29, hf⟩ := grd_e hf
    refine v_iald C (ns_kd_lt hk_b28 (by decide)) hk_b28 hi29 70 rfl (by decide +kernel) ?_
    refine v_iload C 4 3 rfl 72 rfl (by decide +kernel) ?_
    refine v_ixor C 73 rfl (by decide +kernel) ?_
    obtain ⟨hi30, hf⟩ := grd_e hf
    obtain ⟨σ31, hσ31, hf⟩ := bnd_e hf
    refine v_iast C hσ31 (ns_kd_lt hk_b28 (by decide)) hk_b28 hi30 74 rfl (by decide +kernel) ?_
    refine v_iconst C (1) (1) (by decide) 75 rfl (by decide +kernel) ?_
    obtain ⟨rfl, rfl⟩ := ret_e hf
    exact v_iret C hr (by decide +kernel)
  · have hf := ite2_t hf h27
    refine v_iconst C (0) (0) (by decide) 62 rfl (by decide +kernel) ?_
    obtain ⟨rfl, rfl⟩ := ret_e hf
    exact v_iret C hr (by decide +kernel)
theorem c_M_put (G : ns_G) (l : Launch) (σ : ns_St) (a0 : Nat) (x1 : Int32) (x2 : Int32) (x3 : Int32) {r : Int32} {σ' : ns_St} (hf : g_M_put σ a0 x1 x2 x3 = some (r, σ')) : ns_ok G l ⟨"NinthStepModel", "put", "(IIZ)I"⟩ prog_11_method_22_code 5 (some .int) 2 44 0 0 [.ref (G.1 + a0), .int x1, .int x2, .int x3] ns_N σ (some (.int r)) ns_N σ' := by
  refine v_open (by decide) (Nat.le_of_ble_eq_true rfl) rfl ?_
  intro p e s m below meth c C hr _
  have C : ns_Cx G p s m _ meth c prog_11_method_22_code "NinthStepModel" 5 := C
  unfold g_M_put at hf
  obtain ⟨hk_a0, hf⟩ := grd_e hf
  refine v_aload_n C 0 0 rfl 1 rfl (by decide +kernel) ?_
  refine v_iload_n C 1 1 rfl 2 rfl (by decide +kernel) ?_
  obtain ⟨r33, σ32, hcr33, hf⟩ := cl2_e hf
  refine v_cV C 9 rfl (ns_kd_lt hk_a0 (by decide)) hk_a0 (by decide) [.int x1] [] (c_M_isPlace G l σ a0 x1 hcr33) 109 1 tw_1150 tw_1147 tw_1149 ts_82 tw_10 hd_M_isPlace rfl ⟨(Nat.le_of_ble_eq_true rfl), (Nat.le_of_ble_eq_true rfl)⟩ ⟨(Nat.le_of_ble_eq_true rfl), (Nat.le_of_ble_eq_true rfl)⟩ (Nat.le_of_ble_eq_true rfl) rfl 5 rfl (by decide +kernel) [.int r33] rfl ?_
  refine v_if_eq C 17 8 rfl (by decide +kernel) (fun h34 => ?_) (fun h34 => ?_)
  · have hf := ite2_t hf h34
    refine v_aload_n C 0 0 rfl 18 rfl (by decide +kernel) ?_
    refine v_bipush C (-2) (-2) (by decide) 20 rfl (by decide +kernel) ?_
    obtain ⟨r36, σ35, hcr36, hf⟩ := cl2_e hf
    refine v_cV C 9 rfl (ns_kd_lt hk_a0 (by decide)) hk_a0 (by decide) [.int (-2 : Int32)] [] (c_M_no G l σ32 a0 (-2 : Int32) hcr36) 73 1 tw_1079 tw_1076 tw_1078 ts_73 tw_10 hd_M_no rfl ⟨(Nat.le_of_ble_eq_true rfl), (Nat.le_of_ble_eq_true rfl)⟩ ⟨(Nat.le_of_ble_eq_true rfl), (Nat.le_of_ble_eq_true rfl)⟩ (Nat.le_of_ble_eq_true rfl) rfl 23 rfl (by decide +kernel) [.int r36] rfl ?_
    obtain ⟨rfl, rfl⟩ := ret_e hf
    exact v_iret C hr (by decide +kernel)
  · have hf := ite2_f hf h34
    refine v_iload_n C 2 2 rfl 9 rfl (by decide +kernel) ?_
    refine v_iconst C (0) (0) (by decide) 10 rfl (by decide +kernel) ?_
    refine v_iconst C (3) (3) (by decide) 11 rfl (by decide +kernel) ?_
    obtain ⟨r38, σ37, hcr38, hf⟩ := cl2_e hf
    refine v_cS C [.int x2, .int (0 : Int32), .int (3 : Int32)] [] (c_M_within G l σ32 x2 (0 : Int32) (3 : Int32) hcr38) 69 3 tw_1075 tw_1073 tw_1074 tw_10 hd_M_within rfl ⟨(Nat.le_of_ble_eq_true rfl), (Nat.le_of_ble_eq_true rfl)⟩ ⟨(Nat.le_of_ble_eq_true rfl), (Nat.le_of_ble_eq_true rfl)⟩ (Nat.le_of_ble_eq_true rfl) rfl 14 rfl (by decide +kernel) [.int r38] rfl ?_
    refine v_if_ne C 24 17 rfl (by decide +kernel) (fun h39 => ?_) (fun h39 => ?_)
    · have hf := ite2_f hf h39
      refine v_iconst C (1) (1) (by decide) 25 rfl (by decide +kernel) ?_
      refine v_iload_n C 2 2 rfl 26 rfl (by decide +kernel) ?_
      refine v_ishl C 27 rfl (by decide +kernel) ?_
      obtain ⟨z40, hz40, hf⟩ := bnd_e hf
      refine v_nmI hz40 ?_
      refine v_istore C 4 [(4, .int z40), (0, .ref (G.1 + a0)), (1, .int x1), (2, .int x2), (3, .int x3)] (by decide) rfl 29 rfl (by decide +kernel) ?_
      refine v_iload_n C 3 4 rfl 30 rfl (by decide +kernel) ?_
      refine v_if_eq C 50 33 rfl (by decide +kernel) (fun h41 => ?_) (fun h41 => ?_)
      · have hf := ite2_t hf h41
        refine v_sub [1, 2, 4, 0] rfl ?_
        exact t_M_put_50 G l C hr  σ37 a0 x1 x3 z40 hk_a0 hf
      · have hf := ite2_f hf h41
        refine v_aload_n C 0 1 rfl 34 rfl (by decide +kernel) ?_
        refine v_iload_n C 1 2 rfl 35 rfl (by decide +kernel) ?_
        refine v_iload C 4 0 rfl 37 rfl (by decide +kernel) ?_
        obtain ⟨r43, σ42, hcr43, hf⟩ := cl2_e hf
        refine v_cV C 9 rfl (ns_kd_lt hk_a0 (by decide)) hk_a0 (by decide) [.int x1, .int z40] [] (c_M_canBe G l σ37 a0 x1 z40 hcr43) 112 2 tw_1154 tw_1151 tw_1153 ts_83 tw_10 hd_M_canBe rfl ⟨(Nat.le_of_ble_eq_true rfl), (Nat.le_of_ble_eq_true rfl)⟩ ⟨(Nat.le_of_ble_eq_true rfl), (Nat.le_of_ble_eq_true rfl)⟩ (Nat.le_of_ble_eq_true rfl) rfl 40 rfl (by decide +kernel) [.int r43] rfl ?_
        refine v_if_ne C 50 43 rfl (by decide +kernel) (fun h44 => ?_) (fun h44 => ?_)
        · have hf := ite2_f hf h44
          refine v_sub [1, 2, 4, 0] rfl ?_
          exact t_M_put_50 G l C hr  σ42 a0 x1 x3 z40 hk_a0 hf
        · have hf := ite2_t hf h44
          refine v_aload_n C 0 1 rfl 44 rfl (by decide +kernel) ?_
          refine v_bipush C (-5) (-5) (by decide) 46 rfl (by decide +kernel) ?_
          obtain ⟨r46, σ45, hcr46, hf⟩ := cl2_e hf
          refine v_cV C 9 rfl (ns_kd_lt hk_a0 (by decide)) hk_a0 (by decide) [.int (-5 : Int32)] [] (c_M_no G l σ42 a0 (-5 : Int32) hcr46) 73 1 tw_1079 tw_1076 tw_1078 ts_73 tw_10 hd_M_no rfl ⟨(Nat.le_of_ble_eq_true rfl), (Nat.le_of_ble_eq_true rfl)⟩ ⟨(Nat.le_of_ble_eq_true rfl), (Nat.le_of_ble_eq_true rfl)⟩ (Nat.le_of_ble_eq_true rfl) rfl 49 rfl (by decide +kernel) [.int r46] rfl ?_
          obtain ⟨rfl, rfl⟩ := ret_e hf
          exact v_iret C hr (by decide +kernel)
    · have hf := ite2_t hf h39
      refine v_aload_n C 0 0 rfl 18 rfl (by decide +kernel) ?_
      refine v_bipush C (-2) (-2) (by decide) 20 rfl (by decide +kernel) ?_
      obtain ⟨r48, σ47, hcr48, hf⟩ := cl2_e hf
      refine v_cV C 9 rfl (ns_kd_lt hk_a0 (by decide)) hk_a0 (by decide) [.int (-2 : Int32)] [] (c_M_no G l σ37 a0 (-2 : Int32) hcr48) 73 1 tw_1079 tw_1076 tw_1078 ts_73 tw_10 hd_M_no rfl ⟨(Nat.le_of_ble_eq_true rfl), (Nat.le_of_ble_eq_true rfl)⟩ ⟨(Nat.le_of_ble_eq_true rfl), (Nat.le_of_ble_eq_true rfl)⟩ (Nat.le_of_ble_eq_true rfl) rfl 23 rfl (by decide +kernel) [.int r48] rfl ?_
      obtain ⟨rfl, rfl⟩ := ret_e hf
      exact v_iret C hr (by decide +kernel)
theorem hd_M_put : (⟨"NinthStepModel", "put", "(IIZ)I"⟩ : MethodName).cls = "NinthStepModel" ∧ (⟨"NinthStepModel", "put", "(IIZ)I"⟩ : MethodName).cls ≠ "java/lang/invoke/MethodHandle" ∧ (⟨"NinthStepModel", "put", "(IIZ)I"⟩ : MethodName).cls ≠ "java/lang/invoke/VarHandle" ∧ (parseMethodDescriptor (⟨"NinthStepModel", "put", "(IIZ)I"⟩ : MethodName).desc).map (fun d => d.parameters.length) = some 3 := by decide +kernel
def g_M_newMule (σ : ns_St) (a0 : Nat) (x1 : Int32) (x2 : Int32) (x3 : Int32) : Option (Int32 × ns_St) := grd (ns_kd a0 = 9) <| drf (σ.2.2 a0 6) fun b21 => grd (ns_kd b21 = 10) <| grd (ns_in (σ.1 a0 5) (ns_ln b21)) <| bnd (ns_pI σ b21 (ns_ix (σ.1 a0 5)) x1) fun σ23 => drf (σ23.2.2 a0 7) fun b24 => grd (ns_kd b24 = 10) <| grd (ns_in (σ23.1 a0 5) (ns_ln b24)) <| bnd (ns_pI σ23 b24 (ns_ix (σ23.1 a0 5)) x2) fun σ26 => drf (σ26.2.2 a0 8) fun b27 => grd (ns_kd b27 = 10) <| grd (ns_in (σ26.1 a0 5) (ns_ln b27)) <| bnd (ns_pI σ26 b27 (ns_ix (σ26.1 a0 5)) (0 : Int32)) fun σ29 => drf (σ29.2.2 a0 9) fun b30 => grd (ns_kd b30 = 10) <| grd (ns_in (σ29.1 a0 5) (ns_ln b30)) <| bnd (ns_pI σ29 b30 (ns_ix (σ29.1 a0 5)) (0 : Int32)) fun σ32 => drf (σ32.2.2 a0 10) fun b33 => grd (ns_kd b33 = 10) <| grd (ns_in (σ32.1 a0 5) (ns_ln b33)) <| bnd (ns_pI σ32 b33 (ns_ix (σ32.1 a0 5)) (0 : Int32)) fun σ35 => drf (σ35.2.2 a0 11) fun b36 => grd (ns_kd b36 = 10) <| grd (ns_in (σ35.1 a0 5) (ns_ln b36)) <| bnd (ns_pI σ35 b36 (ns_ix (σ35.1 a0 5)) x3) fun σ38 => bnd (σ38.1 a0 5) fun z39 => bnd (ns_pI σ38 a0 5 (z39 + (1 : Int32))) fun σ40 => some (z39, σ40)
theorem c_M_newMule (G : ns_G) (l : Launch) (σ : ns_St) (a0 : Nat) (x1 : Int32) (x2 : Int32) (x3 : Int32) {r : Int32} {σ' : ns_St} (hf : g_M_newMule σ a0 x1 x2 x3 = some (r, σ')) : ns_ok G l ⟨"NinthStepModel", "newMule", "(III)I"⟩ prog_11_method_23_code 4 (some .int) 0 0 0 0 [.ref (G.1 + a0), .int x1, .int x2, .int x3] ns_N σ (some (.int r)) ns_N σ' := by
  refine v_open (by decide) (Nat.le_of_ble_eq_true rfl) rfl ?_
  intro p e s m below meth c C hr _
  have C : ns_Cx G p s m _ meth c prog_11_method_23_code "NinthStepModel" 4 := C
  unfold g_M_newMule at hf
  obtain ⟨hk_a0, hf⟩ := grd_e hf
  refine v_aload_n C 0 0 rfl 1 rfl (by decide +kernel) ?_
  obtain ⟨b21, hb21, hf⟩ := drf_e hf
  obtain ⟨hk_b21, hf⟩ := grd_e hf
  refine v_getR C 9 6 hb21 rfl nin_9 (ns_kd_lt hk_a0 (by decide)) hk_a0 (by decide) (by decide) rfl 23 tw_981 rfl 4 rfl (by decide +kernel) ?_
  refine v_aload_n C 0 0 rfl 5 rfl (by decide +kernel) ?_
  refine v_getI C 9 5 rfl nin_9 (ns_kd_lt hk_a0 (by decide)) hk_a0 (by decide) (by decide) rfl 66 tw_980 rfl 8 rfl (by decide +kernel) ?_
  refine v_iload_n C 1 1 rfl 9 rfl (by decide +kernel) ?_
  obtain ⟨hi22, hf⟩ := grd_e hf
  obtain ⟨σ23, hσ23, hf⟩ := bnd_e hf
  refine v_iast C hσ23 (ns_kd_lt hk_b21 (by decide)) hk_b21 hi22 10 rfl (by decide +kernel) ?_
  refine v_aload_n C 0 0 rfl 11 rfl (by decide +kernel) ?_
  obtain ⟨b24, hb24, hf⟩ := drf_e hf
  obtain ⟨hk_b24, hf⟩ := grd_e hf
  refine v_getR C 9 7 hb24 rfl nin_9 (ns_kd_lt hk_a0 (by decide)) hk_a0 (by decide) (by decide) rfl 26 tw_982 rfl 14 rfl (by decide +kernel) ?_
  refine v_aload_n C 0 0 rfl 15 rfl (by decide +kernel) ?_
  refine v_getI C 9 5 rfl nin_9 (ns_kd_lt hk_a0 (by decide)) hk_a0 (by decide) (by decide) rfl 66 tw_980 rfl 18 rfl (by decide +kernel) ?_
  refine v_iload_n C 2 2 rfl 19 rfl (by decide +kernel) ?_
  obtain ⟨hi25, hf⟩ := grd_e hf
  obtain ⟨σ26, hσ26, hf⟩ := bnd_e hf
  refine v_iast C hσ26 (ns_kd_lt hk_b24 (by decide)) hk_b24 hi25 20 rfl (by decide +kernel) ?_
  refine v_aload_n C 0 0 rfl 21 rfl (by decide +kernel) ?_
  obtain ⟨b27, hb27, hf⟩ := drf_e hf
  obtain ⟨hk_b27, hf⟩ := grd_e hf
  refine v_getR C 9 8 hb27 rfl nin_9 (ns_kd_lt hk_a0 (by decide)) hk_a0 (by decide) (by decide) rfl 29 tw_983 rfl 24 rfl (by decide +kernel) ?_
  refine v_aload_n C 0 0 rfl 25 rfl (by decide +kernel) ?_
  refine v_getI C 9 5 rfl nin_9 (ns_kd_lt hk_a0 (by decide)) hk_a0 (by decide) (by decide) rfl 66 tw_980 rfl 28 rfl (by decide +kernel) ?_
  refine v_iconst C (0) (0) (by decide) 29 rfl (by decide +kernel) ?_
  obtain ⟨hi28, hf⟩ := grd_e hf
  obtain ⟨σ29, hσ29, hf⟩ := bnd_e hf
  refine v_iast C hσ29 (ns_kd_lt hk_b27 (by decide)) hk_b27 hi28 30 rfl (by decide +kernel) ?_
  refine v_aload_n C 0 0 rfl 31 rfl (by decide +kernel) ?_
  obtain ⟨b30, hb30, hf⟩ := drf_e hf
  obtain ⟨hk_b30, hf⟩ := grd_e hf
  refine v_getR C 9 9 hb30 rfl nin_9 (ns_kd_lt hk_a0 (by decide)) hk_a0 (by decide) (by decide) rfl 32 tw_984 rfl 34 rfl (by decide +kernel) ?_
  refine v_aload_n C 0 0 rfl 35 rfl (by decide +kernel) ?_
  refine v_getI C 9 5 rfl nin_9 (ns_kd_lt hk_a0 (by decide)) hk_a0 (by decide) (by decide) rfl 66 tw_980 rfl 38 rfl (by decide +kernel) ?_
  refine v_iconst C (0) (0) (by decide) 39 rfl (by decide +kernel) ?_
  obtain ⟨hi31, hf⟩ := grd_e hf
  obtain ⟨σ32, hσ32, hf⟩ := bnd_e hf
  refine v_iast C hσ32 (ns_kd_lt hk_b30 (by decide)) hk_b30 hi31 40 rfl (by decide +kernel) ?_
  refine v_aload_n C 0 0 rfl 41 rfl (by decide +kernel) ?_
  obtain ⟨b33, hb33, hf⟩ := drf_e hf
  obtain ⟨hk_b33, hf⟩ := grd_e hf
  refine v_getR C 9 10 hb33 rfl nin_9 (ns_kd_lt hk_a0 (by decide)) hk_a0 (by decide) (by decide) rfl 35 tw_985 rfl 44 rfl (by decide +kernel) ?_
  refine v_aload_n C 0 0 rfl 45 rfl (by decide +kernel) ?_
  refine v_getI C 9 5 rfl nin_9 (ns_kd_lt hk_a0 (by decide)) hk_a0 (by decide) (by decide) rfl 66 tw_980 rfl 48 rfl (by decide +kernel) ?_
  refine v_iconst C (0) (0) (by decide) 49 rfl (by decide +kernel) ?_
  obtain ⟨hi34, hf⟩ := grd_e hf
  obtain ⟨σ35, hσ35, hf⟩ := bnd_e hf
  refine v_iast C hσ35 (ns_kd_lt hk_b33 (by decide)) hk_b33 hi34 50 rfl (by decide +kernel) ?_
  refine v_aload_n C 0 0 rfl 51 rfl (by decide +kernel) ?_
  obtain ⟨b36, hb36, hf⟩ := drf_e hf
  obtain ⟨hk_b36, hf⟩ := grd_e hf
  refine v_getR C 9 11 hb36 rfl nin_9 (ns_kd_lt hk_a0 (by decide)) hk_a0 (by decide) (by decide) rfl 38 tw_986 rfl 54 rfl (by decide +kernel) ?_
  refine v_aload_n C 0 0 rfl 55 rfl (by decide +kernel) ?_
  refine v_getI C 9 5 rfl nin_9 (ns_kd_lt hk_a0 (by decide)) hk_a0 (by decide) (by decide) rfl 66 tw_980 rfl 58 rfl (by decide +kernel) ?_
  refine v_iload_n C 3 3 rfl 59 rfl (by decide +kernel) ?_
  obtain ⟨hi37, hf⟩ := grd_e hf
  obtain ⟨σ38, hσ38, hf⟩ := bnd_e hf
  refine v_iast C hσ38 (ns_kd_lt hk_b36 (by decide)) hk_b36 hi37 60 rfl (by decide +kernel) ?_
  refine v_aload_n C 0 0 rfl 61 rfl (by decide +kernel) ?_
  refine v_dup C rfl 62 rfl (by decide +kernel) ?_
  refine v_getI C 9 5 rfl nin_9 (ns_kd_lt hk_a0 (by decide)) hk_a0 (by decide) (by decide) rfl 66 tw_980 rfl 65 rfl (by decide +kernel) ?_
  obtain ⟨z39, hz39, hf⟩ := bnd_e hf
  refine v_nmI hz39 ?_
  refine v_dup_x1 C rfl rfl 66 rfl (by decide +kernel) ?_
  refine v_iconst C (1) (1) (by decide) 67 rfl (by decide +kernel) ?_
  refine v_iadd C 68 rfl (by decide +kernel) ?_
  obtain ⟨σ40, hσ40, hf⟩ := bnd_e hf
  refine v_putI C 9 5 hσ40 rfl nin_9 ny_9 nty_9 nnm_9 (ns_kd_lt hk_a0 (by decide)) hk_a0 (by decide) (by decide) rfl rfl rfl rfl 66 tw_980 rfl 71 rfl (by decide +kernel) ?_
  obtain ⟨rfl, rfl⟩ := ret_e hf
  exact v_iret C hr (by decide +kernel)
theorem hd_M_newMule : (⟨"NinthStepModel", "newMule", "(III)I"⟩ : MethodName).cls = "NinthStepModel" ∧ (⟨"NinthStepModel", "newMule", "(III)I"⟩ : MethodName).cls ≠ "java/lang/invoke/MethodHandle" ∧ (⟨"NinthStepModel", "newMule", "(III)I"⟩ : MethodName).cls ≠ "java/lang/invoke/VarHandle" ∧ (parseMethodDescriptor (⟨"NinthStepModel", "newMule", "(III)I"⟩ : MethodName).desc).map (fun d => d.parameters.length) = some 3 := by decide +kernel
def g_M_mule (σ : ns_St) (a0 : Nat) (x1 : Int32) (x2 : Int32) (x3 : Int32) : Option (Int32 × ns_St) := grd (ns_kd a0 = 9) <| cl2 (g_M_within σ x1 (0 : Int32) (5 : Int32)) fun r22 σ21 => ite2 (r22 = 0) (cl2 (g_M_no σ21 a0 (-2 : Int32)) fun r25 σ24 => some (r25, σ24)) (cl2 (g_M_within σ21 x2 (2 : Int32) (13 : Int32)) fun r27 σ26 => ite2 (r27 = 0) (cl2 (g_M_no σ26 a0 (-2 : Int32)) fun r30 σ29 => some (r30, σ29)) (cl2 (g_M_within σ26 x3 (0 : Int32) (9 : Int32)) fun r32 σ31 => ite2 (r32 = 0) (cl2 (g_M_no σ31 a0 (-2 : Int32)) fun r40 σ39 => some (r40, σ39)) (ite2 ((σ31.1 a0 5) = (6 : Int32)) (cl2 (g_M_no σ31 a0 (-6 : Int32)) fun r38 σ37 => some (r38, σ37)) (cl2 (g_M_newMule σ31 a0 x1 x2 x3) fun r36 σ35 => some (r36, σ35)))))
theorem c_M_mule (G : ns_G) (l : Launch) (σ : ns_St) (a0 : Nat) (x1 : Int32) (x2 : Int32) (x3 : Int32) {r : Int32} {σ' : ns_St} (hf : g_M_mule σ a0 x1 x2 x3 = some (r, σ')) : ns_ok G l ⟨"NinthStepModel", "mule", "(III)I"⟩ prog_11_method_24_code 4 (some .int) 1 23 0 0 [.ref (G.1 + a0), .int x1, .int x2, .int x3] ns_N σ (some (.int r)) ns_N σ' := by
  refine v_open (by decide) (Nat.le_of_ble_eq_true rfl) rfl ?_
  intro p e s m below meth c C hr _
  have C : ns_Cx G p s m _ meth c prog_11_method_24_code "NinthStepModel" 4 := C
  unfold g_M_mule at hf
  obtain ⟨hk_a0, hf⟩ := grd_e hf
  refine v_iload_n C 1 1 rfl 1 rfl (by decide +kernel) ?_
  refine v_iconst C (0) (0) (by decide) 2 rfl (by decide +kernel) ?_
  refine v_iconst C (5) (5) (by decide) 3 rfl (by decide +kernel) ?_
  obtain ⟨r22, σ21, hcr22, hf⟩ := cl2_e hf
  refine v_cS C [.int x1, .int (0 : Int32), .int (5 : Int32)] [] (c_M_within G l σ x1 (0 : Int32) (5 : Int32) hcr22) 69 3 tw_1075 tw_1073 tw_1074 tw_10 hd_M_within rfl ⟨(Nat.le_of_ble_eq_true rfl), (Nat.le_of_ble_eq_true rfl)⟩ ⟨(Nat.le_of_ble_eq_true rfl), (Nat.le_of_ble_eq_true rfl)⟩ (Nat.le_of_ble_eq_true rfl) rfl 6 rfl (by decide +kernel) [.int r22] rfl ?_
  refine v_if_eq C 29 9 rfl (by decide +kernel) (fun h23 => ?_) (fun h23 => ?_)
  · have hf := ite2_t hf h23
    refine v_aload_n C 0 0 rfl 30 rfl (by decide +kernel) ?_
    refine v_bipush C (-2) (-2) (by decide) 32 rfl (by decide +kernel) ?_
    obtain ⟨r25, σ24, hcr25, hf⟩ := cl2_e hf
    refine v_cV C 9 rfl (ns_kd_lt hk_a0 (by decide)) hk_a0 (by decide) [.int (-2 : Int32)] [] (c_M_no G l σ21 a0 (-2 : Int32) hcr25) 73 1 tw_1079 tw_1076 tw_1078 ts_73 tw_10 hd_M_no rfl ⟨(Nat.le_of_ble_eq_true rfl), (Nat.le_of_ble_eq_true rfl)⟩ ⟨(Nat.le_of_ble_eq_true rfl), (Nat.le_of_ble_eq_true rfl)⟩ (Nat.le_of_ble_eq_true rfl) rfl 35 rfl (by decide +kernel) [.int r25] rfl ?_
    obtain ⟨rfl, rfl⟩ := ret_e hf
    exact v_iret C hr (by decide +kernel)
  · have hf := ite2_f hf h23
    refine v_iload_n C 2 2 rfl 10 rfl (by decide +kernel) ?_
    refine v_iconst C (2) (2) (by decide) 11 rfl (by decide +kernel) ?_
    refine v_bipush C (13) (13) (by decide) 13 rfl (by decide +kernel) ?_
    obtain ⟨r27, σ26, hcr27, hf⟩ := cl2_e hf
    refine v_cS C [.int x2, .int (2 : Int32), .int (13 : Int32)] [] (c_M_within G l σ21 x2 (2 : Int32) (13 : Int32) hcr27) 69 3 tw_1075 tw_1073 tw_1074 tw_10 hd_M_within rfl ⟨(Nat.le_of_ble_eq_true rfl), (Nat.le_of_ble_eq_true rfl)⟩ ⟨(Nat.le_of_ble_eq_true rfl), (Nat.le_of_ble_eq_true rfl)⟩ (Nat.le_of_ble_eq_true rfl) rfl 16 rfl (by decide +kernel) [.int r27] rfl ?_
    refine v_if_eq C 29 19 rfl (by decide +kernel) (fun h28 => ?_) (fun h28 => ?_)
    · have hf := ite2_t hf h28
      refine v_aload_n C 0 0 rfl 30 rfl (by decide +kernel) ?_
      refine v_bipush C (-2) (-2) (by decide) 32 rfl (by decide +kernel) ?_
      obtain ⟨r30, σ29, hcr30, hf⟩ := cl2_e hf
      refine v_cV C 9 rfl (ns_kd_lt hk_a0 (by decide)) hk_a0 (by decide) [.int (-2 : Int32)] [] (c_M_no G l σ26 a0 (-2 : Int32) hcr30) 73 1 tw_1079 tw_1076 tw_1078 ts_73 tw_10 hd_M_no rfl ⟨(Nat.le_of_ble_eq_true rfl), (Nat.le_of_ble_eq_true rfl)⟩ ⟨(Nat.le_of_ble_eq_true rfl), (Nat.le_of_ble_eq_true rfl)⟩ (Nat.le_of_ble_eq_true rfl) rfl 35 rfl (by decide +kernel) [.int r30] rfl ?_
      obtain ⟨rfl, rfl⟩ := ret_e hf
      exact v_iret C hr (by decide +kernel)
    · have hf := ite2_f hf h28
      refine v_iload_n C 3 3 rfl 20 rfl (by decide +kernel) ?_
      refine v_iconst C (0) (0) (by decide) 21 rfl (by decide +kernel) ?_
      refine v_bipush C (9) (9) (by decide) 23 rfl (by decide +kernel) ?_
      obtain ⟨r32, σ31, hcr32, hf⟩ := cl2_e hf
      refine v_cS C [.int x3, .int (0 : Int32), .int (9 : Int32)] [] (c_M_within G l σ26 x3 (0 : Int32) (9 : Int32) hcr32) 69 3 tw_1075 tw_1073 tw_1074 tw_10 hd_M_within rfl ⟨(Nat.le_of_ble_eq_true rfl), (Nat.le_of_ble_eq_true rfl)⟩ ⟨(Nat.le_of_ble_eq_true rfl), (Nat.le_of_ble_eq_true rfl)⟩ (Nat.le_of_ble_eq_true rfl) rfl 26 rfl (by decide +kernel) [.int r32] rfl ?_
      refine v_if_ne C 36 29 rfl (by decide +kernel) (fun h33 => ?_) (fun h33 => ?_)
      · have hf := ite2_f hf h33
        refine v_aload_n C 0 0 rfl 37 rfl (by decide +kernel) ?_
        refine v_getI C 9 5 rfl nin_9 (ns_kd_lt hk_a0 (by decide)) hk_a0 (by decide) (by decide) rfl 66 tw_980 rfl 40 rfl (by decide +kernel) ?_
        refine v_bipush C (6) (6) (by decide) 42 rfl (by decide +kernel) ?_
        refine v_icmp_ne C 54 45 rfl (by decide +kernel) (fun h34 => ?_) (fun h34 => ?_)
        · have hf := ite2_f hf h34
          refine v_aload_n C 0 0 rfl 55 rfl (by decide +kernel) ?_
          refine v_iload_n C 1 1 rfl 56 rfl (by decide +kernel) ?_
          refine v_iload_n C 2 2 rfl 57 rfl (by decide +kernel) ?_
          refine v_iload_n C 3 3 rfl 58 rfl (by decide +kernel) ?_
          obtain ⟨r36, σ35, hcr36, hf⟩ := cl2_e hf
          refine v_cV C 9 rfl (ns_kd_lt hk_a0 (by decide)) hk_a0 (by decide) [.int x1, .int x2, .int x3] [] (c_M_newMule G l σ31 a0 x1 x2 x3 hcr36) 115 3 tw_1162 tw_1159 tw_1161 ts_84 tw_10 hd_M_newMule rfl ⟨(Nat.le_of_ble_eq_true rfl), (Nat.le_of_ble_eq_true rfl)⟩ ⟨(Nat.le_of_ble_eq_true rfl), (Nat.le_of_ble_eq_true rfl)⟩ (Nat.le_of_ble_eq_true rfl) rfl 61 rfl (by decide +kernel) [.int r36] rfl ?_
          obtain ⟨rfl, rfl⟩ := ret_e hf
          exact v_iret C hr (by decide +kernel)
        · have hf := ite2_t hf h34
          refine v_aload_n C 0 0 rfl 46 rfl (by decide +kernel) ?_
          refine v_bipush C (-6) (-6) (by decide) 48 rfl (by decide +kernel) ?_
          obtain ⟨r38, σ37, hcr38, hf⟩ := cl2_e hf
          refine v_cV C 9 rfl (ns_kd_lt hk_a0 (by decide)) hk_a0 (by decide) [.int (-6 : Int32)] [] (c_M_no G l σ31 a0 (-6 : Int32) hcr38) 73 1 tw_1079 tw_1076 tw_1078 ts_73 tw_10 hd_M_no rfl ⟨(Nat.le_of_ble_eq_true rfl), (Nat.le_of_ble_eq_true rfl)⟩ ⟨(Nat.le_of_ble_eq_true rfl), (Nat.le_of_ble_eq_true rfl)⟩ (Nat.le_of_ble_eq_true rfl) rfl 51 rfl (by decide +kernel) [.int r38] rfl ?_
          refine v_goto C 61 (by decide +kernel) ?_
          obtain ⟨rfl, rfl⟩ := ret_e hf
          exact v_iret C hr (by decide +kernel)
      · have hf := ite2_t hf h33
        refine v_aload_n C 0 0 rfl 30 rfl (by decide +kernel) ?_
        refine v_bipush C (-2) (-2) (by decide) 32 rfl (by decide +kernel) ?_
        obtain ⟨r40, σ39, hcr40, hf⟩ := cl2_e hf
        refine v_cV C 9 rfl (ns_kd_lt hk_a0 (by decide)) hk_a0 (by decide) [.int (-2 : Int32)] [] (c_M_no G l σ31 a0 (-2 : Int32) hcr40) 73 1 tw_1079 tw_1076 tw_1078 ts_73 tw_10 hd_M_no rfl ⟨(Nat.le_of_ble_eq_true rfl), (Nat.le_of_ble_eq_true rfl)⟩ ⟨(Nat.le_of_ble_eq_true rfl), (Nat.le_of_ble_eq_true rfl)⟩ (Nat.le_of_ble_eq_true rfl) rfl 35 rfl (by decide +kernel) [.int r40] rfl ?_
        obtain ⟨rfl, rfl⟩ := ret_e hf
        exact v_iret C hr (by decide +kernel)
theorem hd_M_mule : (⟨"NinthStepModel", "mule", "(III)I"⟩ : MethodName).cls = "NinthStepModel" ∧ (⟨"NinthStepModel", "mule", "(III)I"⟩ : MethodName).cls ≠ "java/lang/invoke/MethodHandle" ∧ (⟨"NinthStepModel", "mule", "(III)I"⟩ : MethodName).cls ≠ "java/lang/invoke/VarHandle" ∧ (parseMethodDescriptor (⟨"NinthStepModel", "mule", "(III)I"⟩ : MethodName).desc).map (fun d => d.parameters.length) = some 3 := by decide +kernel
def g_M_stand (σ : ns_St) (a0 : Nat) (x1 : Int32) (x2 : Int32) (x3 : Int32) : Option (Int32 × ns_St) := grd (ns_kd a0 = 9) <| cl2 (g_M_isMule σ a0 x1) fun r28 σ27 => ite2 (r28 = 0) (cl2 (g_M_no σ27 a0 (-2 : Int32)) fun r31 σ30 => some (r31, σ30)) (cl2 (g_M_isPlace σ27 a0 x2) fun r33 σ32 => ite2 (r33 = 0) (cl2 (g_M_no σ32 a0 (-2 : Int32)) fun r36 σ35 => some (r36, σ35)) (drf (σ32.2.2 a0 7) fun b37 => grd (ns_kd b37 = 10) <| grd (ns_in x1 (ns_ln b37)) <| cl2 (g_M_within σ32 x3 (0 : Int32) ((σ32.1 b37 (ns_ix x1)) - (1 : Int32))) fun r40 σ39 => ite2 (r40 = 0) (cl2 (g_M_no σ39 a0 (-2 : Int32)) fun r52 σ51 => some (r52, σ51)) (drf (σ39.2.2 a0 8) fun b42 => grd (ns_kd b42 = 10) <| grd (ns_in x1 (ns_ln b42)) <| bnd (σ39.1 b42 (ns_ix x1)) fun z44 => drf (σ39.2.2 a0 8) fun b45 => grd (ns_kd b45 = 10) <| grd (ns_in x1 (ns_ln b45)) <| bnd (ns_pI σ39 b45 (ns_ix x1) x2) fun σ47 => drf (σ47.2.2 a0 9) fun b48 => grd (ns_kd b48 = 10) <| grd (ns_in x1 (ns_ln b48)) <| bnd (ns_pI σ47 b48 (ns_ix x1) x3) fun σ50 => some (z44, σ50))))
theorem c_M_stand (G : ns_G) (l : Launch) (σ : ns_St) (a0 : Nat) (x1 : Int32) (x2 : Int32) (x3 : Int32) {r : Int32} {σ' : ns_St} (hf : g_M_stand σ a0 x1 x2 x3 = some (r, σ')) : ns_ok G l ⟨"NinthStepModel", "stand", "(III)I"⟩ prog_11_method_25_code 5 (some .int) 2 43 0 0 [.ref (G.1 + a0), .int x1, .int x2, .int x3] ns_N σ (some (.int r)) ns_N σ' := by
  refine v_open (by decide) (Nat.le_of_ble_eq_true rfl) rfl ?_
  intro p e s m below meth c C hr _
  have C : ns_Cx G p s m _ meth c prog_11_method_25_code "NinthStepModel" 5 := C
  unfold g_M_stand at hf
  obtain ⟨hk_a0, hf⟩ := grd_e hf
  refine v_aload_n C 0 0 rfl 1 rfl (by decide +kernel) ?_
  refine v_iload_n C 1 1 rfl 2 rfl (by decide +kernel) ?_
  obtain ⟨r28, σ27, hcr28, hf⟩ := cl2_e hf
  refine v_cV C 9 rfl (ns_kd_lt hk_a0 (by decide)) hk_a0 (by decide) [.int x1] [] (c_M_isMule G l σ a0 x1 hcr28) 84 1 tw_1111 tw_1108 tw_1110 ts_76 tw_10 hd_M_isMule rfl ⟨(Nat.le_of_ble_eq_true rfl), (Nat.le_of_ble_eq_true rfl)⟩ ⟨(Nat.le_of_ble_eq_true rfl), (Nat.le_of_ble_eq_true rfl)⟩ (Nat.le_of_ble_eq_true rfl) rfl 5 rfl (by decide +kernel) [.int r28] rfl ?_
  refine v_if_eq C 32 8 rfl (by decide +kernel) (fun h29 => ?_) (fun h29 => ?_)
  · have hf := ite2_t hf h29
    refine v_aload_n C 0 0 rfl 33 rfl (by decide +kernel) ?_
    refine v_bipush C (-2) (-2) (by decide) 35 rfl (by decide +kernel) ?_
    obtain ⟨r31, σ30, hcr31, hf⟩ := cl2_e hf
    refine v_cV C 9 rfl (ns_kd_lt hk_a0 (by decide)) hk_a0 (by decide) [.int (-2 : Int32)] [] (c_M_no G l σ27 a0 (-2 : Int32) hcr31) 73 1 tw_1079 tw_1076 tw_1078 ts_73 tw_10 hd_M_no rfl ⟨(Nat.le_of_ble_eq_true rfl), (Nat.le_of_ble_eq_true rfl)⟩ ⟨(Nat.le_of_ble_eq_true rfl), (Nat.le_of_ble_eq_true rfl)⟩ (Nat.le_of_ble_eq_true rfl) rfl 38 rfl (by decide +kernel) [.int r31] rfl ?_
    obtain ⟨rfl, rfl⟩ := ret_e hf
    exact v_iret C hr (by decide +kernel)
  · have hf := ite2_f hf h29
    refine v_aload_n C 0 0 rfl 9 rfl (by decide +kernel) ?_
    refine v_iload_n C 2 2 rfl 10 rfl (by decide +kernel) ?_
    obtain ⟨r33, σ32, hcr33, hf⟩ := cl2_e hf
    refine v_cV C 9 rfl (ns_kd_lt hk_a0 (by decide)) hk_a0 (by decide) [.int x2] [] (c_M_isPlace G l σ27 a0 x2 hcr33) 109 1 tw_1150 tw_1147 tw_1149 ts_82 tw_10 hd_M_isPlace rfl ⟨(Nat.le_of_ble_eq_true rfl), (Nat.le_of_ble_eq_true rfl)⟩ ⟨(Nat.le_of_ble_eq_true rfl), (Nat.le_of_ble_eq_true rfl)⟩ (Nat.le_of_ble_eq_true rfl) rfl 13 rfl (by decide +kernel) [.int r33] rfl ?_
    refine v_if_eq C 32 16 rfl (by decide +kernel) (fun h34 => ?_) (fun h34 => ?_)
    · have hf := ite2_t hf h34
      refine v_aload_n C 0 0 rfl 33 rfl (by decide +kernel) ?_
      refine v_bipush C (-2) (-2) (by decide) 35 rfl (by decide +kernel) ?_
      obtain ⟨r36, σ35, hcr36, hf⟩ := cl2_e hf
      refine v_cV C 9 rfl (ns_kd_lt hk_a0 (by decide)) hk_a0 (by decide) [.int (-2 : Int32)] [] (c_M_no G l σ32 a0 (-2 : Int32) hcr36) 73 1 tw_1079 tw_1076 tw_1078 ts_73 tw_10 hd_M_no rfl ⟨(Nat.le_of_ble_eq_true rfl), (Nat.le_of_ble_eq_true rfl)⟩ ⟨(Nat.le_of_ble_eq_true rfl), (Nat.le_of_ble_eq_true rfl)⟩ (Nat.le_of_ble_eq_true rfl) rfl 38 rfl (by decide +kernel) [.int r36] rfl ?_
      obtain ⟨rfl, rfl⟩ := ret_e hf
      exact v_iret C hr (by decide +kernel)
    · have hf := ite2_f hf h34
      refine v_iload_n C 3 3 rfl 17 rfl (by decide +kernel) ?_
      refine v_iconst C (0) (0) (by decide) 18 rfl (by decide +kernel) ?_
      refine v_aload_n C 0 0 rfl 19 rfl (by decide +kernel) ?_
      obtain ⟨b37, hb37, hf⟩ := drf_e hf
      obtain ⟨hk_b37, hf⟩ := grd_e hf
      refine v_getR C 9 7 hb37 rfl nin_9 (ns_kd_lt hk_a0 (by decide)) hk_a0 (by decide) (by decide) rfl 26 tw_982 rfl 22 rfl (by decide +kernel) ?_
      refine v_iload_n C 1 1 rfl 23 rfl (by decide +kernel) ?_
      obtain ⟨hi38, hf⟩ := grd_e hf
      refine v_iald C (ns_kd_lt hk_b37 (by decide)) hk_b37 hi38 24 rfl (by decide +kernel) ?_
      refine v_iconst C (1) (1) (by decide) 25 rfl (by decide +kernel) ?_
      refine v_isub C 26 rfl (by decide +kernel) ?_
      obtain ⟨r40, σ39, hcr40, hf⟩ := cl2_e hf
      refine v_cS C [.int x3, .int (0 : Int32), .int ((σ32.1 b37 (ns_ix x1)) - (1 : Int32))] [] (c_M_within G l σ32 x3 (0 : Int32) ((σ32.1 b37 (ns_ix x1)) - (1 : Int32)) hcr40) 69 3 tw_1075 tw_1073 tw_1074 tw_10 hd_M_within rfl ⟨(Nat.le_of_ble_eq_true rfl), (Nat.le_of_ble_eq_true rfl)⟩ ⟨(Nat.le_of_ble_eq_true rfl), (Nat.le_of_ble_eq_true rfl)⟩ (Nat.le_of_ble_eq_true rfl) rfl 29 rfl (by decide +kernel) [.int r40] rfl ?_
      refine v_if_ne C 39 32 rfl (by decide +kernel) (fun h41 => ?_) (fun h41 => ?_)
      · have hf := ite2_f hf h41
        refine v_aload_n C 0 0 rfl 40 rfl (by decide +kernel) ?_
        obtain ⟨b42, hb42, hf⟩ := drf_e hf
        obtain ⟨hk_b42, hf⟩ := grd_e hf
        refine v_getR C 9 8 hb42 rfl nin_9 (ns_kd_lt hk_a0 (by decide)) hk_a0 (by decide) (by decide) rfl 29 tw_983 rfl 43 rfl (by decide +kernel) ?_
        refine v_iload_n C 1 1 rfl 44 rfl (by decide +kernel) ?_
        obtain ⟨hi43, hf⟩ := grd_e hf
        refine v_iald C (ns_kd_lt hk_b42 (by decide)) hk_b42 hi43 45 rfl (by decide +kernel) ?_
        obtain ⟨z44, hz44, hf⟩ := bnd_e hf
        refine v_nmI hz44 ?_
        refine v_istore C 4 [(4, .int z44), (0, .ref (G.1 + a0)), (1, .int x1), (2, .int x2), (3, .int x3)] (by decide) rfl 47 rfl (by decide +kernel) ?_
        refine v_aload_n C 0 1 rfl 48 rfl (by decide +kernel) ?_
        obtain ⟨b45, hb45, hf⟩ := drf_e hf
        obtain ⟨hk_b45, hf⟩ := grd_e hf
        refine v_getR C 9 8 hb45 rfl nin_9 (ns_kd_lt hk_a0 (by decide)) hk_a0 (by decide) (by decide) rfl 29 tw_983 rfl 51 rfl (by decide +kernel) ?_
        refine v_iload_n C 1 2 rfl 52 rfl (by decide +kernel) ?_
        refine v_iload_n C 2 3 rfl 53 rfl (by decide +kernel) ?_
        obtain ⟨hi46, hf⟩ := grd_e hf
        obtain ⟨σ47, hσ47, hf⟩ := bnd_e hf
        refine v_iast C hσ47 (ns_kd_lt hk_b45 (by decide)) hk_b45 hi46 54 rfl (by decide +kernel) ?_
        refine v_aload_n C 0 1 rfl 55 rfl (by decide +kernel) ?_
        obtain ⟨b48, hb48, hf⟩ := drf_e hf
        obtain ⟨hk_b48, hf⟩ := grd_e hf
        refine v_getR C 9 9 hb48 rfl nin_9 (ns_kd_lt hk_a0 (by decide)) hk_a0 (by decide) (by decide) rfl 32 tw_984 rfl 58 rfl (by decide +kernel) ?_
        refine v_iload_n C 1 2 rfl 59 rfl (by decide +kernel) ?_
        refine v_iload_n C 3 4 rfl 60 rfl (by decide +kernel) ?_
        obtain ⟨hi49, hf⟩ := grd_e hf
        obtain ⟨σ50, hσ50, hf⟩ := bnd_e hf
        refine v_iast C hσ50 (ns_kd_lt hk_b48 (by decide)) hk_b48 hi49 61 rfl (by decide +kernel) ?_
        refine v_iload C 4 0 rfl 63 rfl (by decide +kernel) ?_
        obtain ⟨rfl, rfl⟩ := ret_e hf
        exact v_iret C hr (by decide +kernel)
      · have hf := ite2_t hf h41
        refine v_aload_n C 0 0 rfl 33 rfl (by decide +kernel) ?_
        refine v_bipush C (-2) (-2) (by decide) 35 rfl (by decide +kernel) ?_
        obtain ⟨r52, σ51, hcr52, hf⟩ := cl2_e hf
        refine v_cV C 9 rfl (ns_kd_lt hk_a0 (by decide)) hk_a0 (by decide) [.int (-2 : Int32)] [] (c_M_no G l σ39 a0 (-2 : Int32) hcr52) 73 1 tw_1079 tw_1076 tw_1078 ts_73 tw_10 hd_M_no rfl ⟨(Nat.le_of_ble_eq_true rfl), (Nat.le_of_ble_eq_true rfl)⟩ ⟨(Nat.le_of_ble_eq_true rfl), (Nat.le_of_ble_eq_true rfl)⟩ (Nat.le_of_ble_eq_true rfl) rfl 38 rfl (by decide +kernel) [.int r52] rfl ?_
        obtain ⟨rfl, rfl⟩ := ret_e hf
        exact v_iret C hr (by decide +kernel)
theorem hd_M_stand : (⟨"NinthStepModel", "stand", "(III)I"⟩ : MethodName).cls = "NinthStepModel" ∧ (⟨"NinthStepModel", "stand", "(III)I"⟩ : MethodName).cls ≠ "java/lang/invoke/MethodHandle" ∧ (⟨"NinthStepModel", "stand", "(III)I"⟩ : MethodName).cls ≠ "java/lang/invoke/VarHandle" ∧ (parseMethodDescriptor (⟨"NinthStepModel", "stand", "(III)I"⟩ : MethodName).desc).map (fun d => d.parameters.length) = some 3 := by decide +kernel
def g_M_teach (σ : ns_St) (a0 : Nat) (x1 : Int32) (x2 : Int32) : Option (Int32 × ns_St) := grd (ns_kd a0 = 9) <| cl2 (g_M_isMule σ a0 x1) fun r21 σ20 => ite2 (r21 = 0) (cl2 (g_M_no σ20 a0 (-2 : Int32)) fun r24 σ23 => some (r24, σ23)) (cl2 (g_M_within σ20 x2 (2 : Int32) (13 : Int32)) fun r26 σ25 => ite2 (r26 = 0) (cl2 (g_M_no σ25 a0 (-2 : Int32)) fun r38 σ37 => some (r38, σ37)) (drf (σ25.2.2 a0 7) fun b28 => grd (ns_kd b28 = 10) <| grd (ns_in x1 (ns_ln b28)) <| bnd (σ25.1 b28 (ns_ix x1)) fun z30 => drf (σ25.2.2 a0 7) fun b31 => grd (ns_kd b31 = 10) <| grd (ns_in x1 (ns_ln b31)) <| bnd (ns_pI σ25 b31 (ns_ix x1) x2) fun σ33 => drf (σ33.2.2 a0 9) fun b34 => grd (ns_kd b34 = 10) <| grd (ns_in x1 (ns_ln b34)) <| bnd (ns_pI σ33 b34 (ns_ix x1) (0 : Int32)) fun σ36 => some (z30, σ36)))
theorem c_M_teach (G : ns_G) (l : Launch) (σ : ns_St) (a0 : Nat) (x1 : Int32) (x2 : Int32) {r : Int32} {σ' : ns_St} (hf : g_M_teach σ a0 x1 x2 = some (r, σ')) : ns_ok G l ⟨"NinthStepModel", "teach", "(II)I"⟩ prog_11_method_26_code 4 (some .int) 2 43 0 0 [.ref (G.1 + a0), .int x1, .int x2] ns_N σ (some (.int r)) ns_N σ' := by
  refine v_open (by decide) (Nat.le_of_ble_eq_true rfl) rfl ?_
  intro p e s m below meth c C hr _
  have C : ns_Cx G p s m _ meth c prog_11_method_26_code "NinthStepModel" 4 := C
  unfold g_M_teach at hf
  obtain ⟨hk_a0, hf⟩ := grd_e hf
  refine v_aload_n C 0 0 rfl 1 rfl (by decide +kernel) ?_
  refine v_iload_n C 1 1 rfl 2 rfl (by decide +kernel) ?_
  obtain ⟨r21, σ20, hcr21, hf⟩ := cl2_e hf
  refine v_cV C 9 rfl (ns_kd_lt hk_a0 (by decide)) hk_a0 (by decide) [.int x1] [] (c_M_isMule G l σ a0 x1 hcr21) 84 1 tw_1111 tw_1108 tw_1110 ts_76 tw_10 hd_M_isMule rfl ⟨(Nat.le_of_ble_eq_true rfl), (Nat.le_of_ble_eq_true rfl)⟩ ⟨(Nat.le_of_ble_eq_true rfl), (Nat.le_of_ble_eq_true rfl)⟩ (Nat.le_of_ble_eq_true rfl) rfl 5 rfl (by decide +kernel) [.int r21] rfl ?_
  refine v_if_eq C 18 8 rfl (by decide +kernel) (fun h22 => ?_) (fun h22 => ?_)
  · have hf := ite2_t hf h22
    refine v_aload_n C 0 0 rfl 19 rfl (by decide +kernel) ?_
    refine v_bipush C (-2) (-2) (by decide) 21 rfl (by decide +kernel) ?_
    obtain ⟨r24, σ23, hcr24, hf⟩ := cl2_e hf
    refine v_cV C 9 rfl (ns_kd_lt hk_a0 (by decide)) hk_a0 (by decide) [.int (-2 : Int32)] [] (c_M_no G l σ20 a0 (-2 : Int32) hcr24) 73 1 tw_1079 tw_1076 tw_1078 ts_73 tw_10 hd_M_no rfl ⟨(Nat.le_of_ble_eq_true rfl), (Nat.le_of_ble_eq_true rfl)⟩ ⟨(Nat.le_of_ble_eq_true rfl), (Nat.le_of_ble_eq_true rfl)⟩ (Nat.le_of_ble_eq_true rfl) rfl 24 rfl (by decide +kernel) [.int r24] rfl ?_
    obtain ⟨rfl, rfl⟩ := ret_e hf
    exact v_iret C hr (by decide +kernel)
  · have hf := ite2_f hf h22
    refine v_iload_n C 2 2 rfl 9 rfl (by decide +kernel) ?_
    refine v_iconst C (2) (2) (by decide) 10 rfl (by decide +kernel) ?_
    refine v_bipush C (13) (13) (by decide) 12 rfl (by decide +kernel) ?_
    obtain ⟨r26, σ25, hcr26, hf⟩ := cl2_e hf
    refine v_cS C [.int x2, .int (2 : Int32), .int (13 : Int32)] [] (c_M_within G l σ20 x2 (2 : Int32) (13 : Int32) hcr26) 69 3 tw_1075 tw_1073 tw_1074 tw_10 hd_M_within rfl ⟨(Nat.le_of_ble_eq_true rfl), (Nat.le_of_ble_eq_true rfl)⟩ ⟨(Nat.le_of_ble_eq_true rfl), (Nat.le_of_ble_eq_true rfl)⟩ (Nat.le_of_ble_eq_true rfl) rfl 15 rfl (by decide +kernel) [.int r26] rfl ?_
    refine v_if_ne C 25 18 rfl (by decide +kernel) (fun h27 => ?_) (fun h27 => ?_)
    · have hf := ite2_f hf h27
      refine v_aload_n C 0 0 rfl 26 rfl (by decide +kernel) ?_
      obtain ⟨b28, hb28, hf⟩ := drf_e hf
      obtain ⟨hk_b28, hf⟩ := grd_e hf
      refine v_getR C 9 7 hb28 rfl nin_9 (ns_kd_lt hk_a0 (by decide)) hk_a0 (by decide) (by decide) rfl 26 tw_982 rfl 29 rfl (by decide +kernel) ?_
      refine v_iload_n C 1 1 rfl 30 rfl (by decide +kernel) ?_
      obtain ⟨hi29, hf⟩ := grd_e hf
      refine v_iald C (ns_kd_lt hk_b28 (by decide)) hk_b28 hi29 31 rfl (by decide +kernel) ?_
      obtain ⟨z30, hz30, hf⟩ := bnd_e hf
      refine v_nmI hz30 ?_
      refine v_istore_n C 3 [(3, .int z30), (0, .ref (G.1 + a0)), (1, .int x1), (2, .int x2)] (by decide) rfl 32 rfl (by decide +kernel) ?_
      refine v_aload_n C 0 1 rfl 33 rfl (by decide +kernel) ?_
      obtain ⟨b31, hb31, hf⟩ := drf_e hf
      obtain ⟨hk_b31, hf⟩ := grd_e hf
      refine v_getR C 9 7 hb31 rfl nin_9 (ns_kd_lt hk_a0 (by decide)) hk_a0 (by decide) (by decide) rfl 26 tw_982 rfl 36 rfl (by decide +kernel) ?_
      refine v_iload_n C 1 2 rfl 37 rfl (by decide +kernel) ?_
      refine v_iload_n C 2 3 rfl 38 rfl (by decide +kernel) ?_
      obtain ⟨hi32, hf⟩ := grd_e hf
      obtain ⟨σ33, hσ33, hf⟩ := bnd_e hf
      refine v_iast C hσ33 (ns_kd_lt hk_b31 (by decide)) hk_b31 hi32 39 rfl (by decide +kernel) ?_
      refine v_aload_n C 0 1 rfl 40 rfl (by decide +kernel) ?_
      obtain ⟨b34, hb34, hf⟩ := drf_e hf
      obtain ⟨hk_b34, hf⟩ := grd_e hf
      refine v_getR C 9 9 hb34 rfl nin_9 (ns_kd_lt hk_a0 (by decide)) hk_a0 (by decide) (by decide) rfl 32 tw_984 rfl 43 rfl (by decide +kernel) ?_
      refine v_iload_n C 1 2 rfl 44 rfl (by decide +kernel) ?_
      refine v_iconst C (0) (0) (by decide) 45 rfl (by decide +kernel) ?_
      obtain ⟨hi35, hf⟩ := grd_e hf
      obtain ⟨σ36, hσ36, hf⟩ := bnd_e hf
      refine v_iast C hσ36 (ns_kd_lt hk_b34 (by decide)) hk_b34 hi35 46 rfl (by decide +kernel) ?_
      refine v_iload_n C 3 0 rfl 47 rfl (by decide +kernel) ?_
      obtain ⟨rfl, rfl⟩ := ret_e hf
      exact v_iret C hr (by decide +kernel)
    · have hf := ite2_t hf h27
      refine v_aload_n C 0 0 rfl 19 rfl (by decide +kernel) ?_
      refine v_bipush C (-2) (-2) (by decide) 21 rfl (by decide +kernel) ?_
      obtain ⟨r38, σ37, hcr38, hf⟩ := cl2_e hf
      refine v_cV C 9 rfl (ns_kd_lt hk_a0 (by decide)) hk_a0 (by decide) [.int (-2 : Int32)] [] (c_M_no G l σ25 a0 (-2 : Int32) hcr38) 73 1 tw_1079 tw_1076 tw_1078 ts_73 tw_10 hd_M_no rfl ⟨(Nat.le_of_ble_eq_true rfl), (Nat.le_of_ble_eq_true rfl)⟩ ⟨(Nat.le_of_ble_eq_true rfl), (Nat.le_of_ble_eq_true rfl)⟩ (Nat.le_of_ble_eq_true rfl) rfl 24 rfl (by decide +kernel) [.int r38] rfl ?_
      obtain ⟨rfl, rfl⟩ := ret_e hf
      exact v_iret C hr (by decide +kernel)
theorem hd_M_teach : (⟨"NinthStepModel", "teach", "(II)I"⟩ : MethodName).cls = "NinthStepModel" ∧ (⟨"NinthStepModel", "teach", "(II)I"⟩ : MethodName).cls ≠ "java/lang/invoke/MethodHandle" ∧ (⟨"NinthStepModel", "teach", "(II)I"⟩ : MethodName).cls ≠ "java/lang/invoke/VarHandle" ∧ (parseMethodDescriptor (⟨"NinthStepModel", "teach", "(II)I"⟩ : MethodName).desc).map (fun d => d.parameters.length) = some 2 := by decide +kernel
def g_M_slip (σ : ns_St) (a0 : Nat) (x1 : Int32) : Option (Int32 × ns_St) := grd (ns_kd a0 = 9) <| cl2 (g_M_within σ x1 (0 : Int32) (1000 : Int32)) fun r9 σ8 => ite2 (r9 = 0) (cl2 (g_M_no σ8 a0 (-2 : Int32)) fun r14 σ13 => some (r14, σ13)) (bnd (σ8.1 a0 12) fun z11 => bnd (ns_pI σ8 a0 12 x1) fun σ12 => some (z11, σ12))
theorem c_M_slip (G : ns_G) (l : Launch) (σ : ns_St) (a0 : Nat) (x1 : Int32) {r : Int32} {σ' : ns_St} (hf : g_M_slip σ a0 x1 = some (r, σ')) : ns_ok G l ⟨"NinthStepModel", "slip", "(I)I"⟩ prog_11_method_27_code 3 (some .int) 1 22 0 0 [.ref (G.1 + a0), .int x1] ns_N σ (some (.int r)) ns_N σ' := by
  refine v_open (by decide) (Nat.le_of_ble_eq_true rfl) rfl ?_
  intro p e s m below meth c C hr _
  have C : ns_Cx G p s m _ meth c prog_11_method_27_code "NinthStepModel" 3 := C
  unfold g_M_slip at hf
  obtain ⟨hk_a0, hf⟩ := grd_e hf
  refine v_iload_n C 1 1 rfl 1 rfl (by decide +kernel) ?_
  refine v_iconst C (0) (0) (by decide) 2 rfl (by decide +kernel) ?_
  refine v_sipush C (1000) (1000) (by decide) 5 rfl (by decide +kernel) ?_
  obtain ⟨r9, σ8, hcr9, hf⟩ := cl2_e hf
  refine v_cS C [.int x1, .int (0 : Int32), .int (1000 : Int32)] [] (c_M_within G l σ x1 (0 : Int32) (1000 : Int32) hcr9) 69 3 tw_1075 tw_1073 tw_1074 tw_10 hd_M_within rfl ⟨(Nat.le_of_ble_eq_true rfl), (Nat.le_of_ble_eq_true rfl)⟩ ⟨(Nat.le_of_ble_eq_true rfl), (Nat.le_of_ble_eq_true rfl)⟩ (Nat.le_of_ble_eq_true rfl) rfl 8 rfl (by decide +kernel) [.int r9] rfl ?_
  refine v_if_ne C 18 11 rfl (by decide +kernel) (fun h10 => ?_) (fun h10 => ?_)
  · have hf := ite2_f hf h10
    refine v_aload_n C 0 0 rfl 19 rfl (by decide +kernel) ?_
    refine v_getI C 9 12 rfl nin_9 (ns_kd_lt hk_a0 (by decide)) hk_a0 (by decide) (by decide) rfl 119 tw_987 rfl 22 rfl (by decide +kernel) ?_
    obtain ⟨z11, hz11, hf⟩ := bnd_e hf
    refine v_nmI hz11 ?_
    refine v_istore_n C 2 [(2, .int z11), (0, .ref (G.1 + a0)), (1, .int x1)] (by decide) rfl 23 rfl (by decide +kernel) ?_
    refine v_aload_n C 0 1 rfl 24 rfl (by decide +kernel) ?_
    refine v_iload_n C 1 2 rfl 25 rfl (by decide +kernel) ?_
    obtain ⟨σ12, hσ12, hf⟩ := bnd_e hf
    refine v_putI C 9 12 hσ12 rfl nin_9 ny_9 nty_9 nnm_9 (ns_kd_lt hk_a0 (by decide)) hk_a0 (by decide) (by decide) rfl rfl rfl rfl 119 tw_987 rfl 28 rfl (by decide +kernel) ?_
    refine v_iload_n C 2 0 rfl 29 rfl (by decide +kernel) ?_
    obtain ⟨rfl, rfl⟩ := ret_e hf
    exact v_iret C hr (by decide +kernel)
  · have hf := ite2_t hf h10
    refine v_aload_n C 0 0 rfl 12 rfl (by decide +kernel) ?_
    refine v_bipush C (-2) (-2) (by decide) 14 rfl (by decide +kernel) ?_
    obtain ⟨r14, σ13, hcr14, hf⟩ := cl2_e hf
    refine v_cV C 9 rfl (ns_kd_lt hk_a0 (by decide)) hk_a0 (by decide) [.int (-2 : Int32)] [] (c_M_no G l σ8 a0 (-2 : Int32) hcr14) 73 1 tw_1079 tw_1076 tw_1078 ts_73 tw_10 hd_M_no rfl ⟨(Nat.le_of_ble_eq_true rfl), (Nat.le_of_ble_eq_true rfl)⟩ ⟨(Nat.le_of_ble_eq_true rfl), (Nat.le_of_ble_eq_true rfl)⟩ (Nat.le_of_ble_eq_true rfl) rfl 17 rfl (by decide +kernel) [.int r14] rfl ?_
    obtain ⟨rfl, rfl⟩ := ret_e hf
    exact v_iret C hr (by decide +kernel)
theorem hd_M_slip : (⟨"NinthStepModel", "slip", "(I)I"⟩ : MethodName).cls = "NinthStepModel" ∧ (⟨"NinthStepModel", "slip", "(I)I"⟩ : MethodName).cls ≠ "java/lang/invoke/MethodHandle" ∧ (⟨"NinthStepModel", "slip", "(I)I"⟩ : MethodName).cls ≠ "java/lang/invoke/VarHandle" ∧ (parseMethodDescriptor (⟨"NinthStepModel", "slip", "(I)I"⟩ : MethodName).desc).map (fun d => d.parameters.length) = some 1 := by decide +kernel
