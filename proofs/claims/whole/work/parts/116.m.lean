def g_M_statement_274  (σ : ns_St) (a0 : Nat) (x3 : Int32) (x4 : Int32) : Option (Int32 × ns_St) := cl2 (g_M_isWord σ a0 7) fun r83 σ82 => ite2 (r83 = 0) (some ((1 : Int32), σ82)) (cl2 (g_M_number σ82 a0 (0 : Int32) (x3 - (1 : Int32))) fun r86 σ85 => ite2 (r86 = 0) (some ((0 : Int32), σ85)) (drf (σ85.2.2 a0 9) fun b88 => grd (ns_kd b88 = 10) <| grd (ns_in x4 (ns_ln b88)) <| bnd (ns_pI σ85 b88 (ns_ix x4) (σ85.1 a0 20)) fun σ90 => cl2 (g_M_next σ90 a0) fun r92 σ91 => some ((1 : Int32), σ91)))
def g_M_statement_107  (σ : ns_St) (s0 : Int32) (a0 : Nat) : Option (Int32 × ns_St) := ite2 (s0 ≤ 0) (ite2 ((σ.1 a0 5) = (6 : Int32)) (some ((0 : Int32), σ)) (cl2 (g_M_isWord σ a0 5) fun r96 σ95 => ite2 (r96 = 0) (some ((0 : Int32), σ95)) (cl2 (g_M_number σ95 a0 (0 : Int32) (5 : Int32)) fun r99 σ98 => ite2 (r99 = 0) (some ((0 : Int32), σ98)) (bnd (σ98.1 a0 20) fun z101 => cl2 (g_M_number σ98 a0 (2 : Int32) (13 : Int32)) fun r103 σ102 => ite2 (r103 = 0) (some ((0 : Int32), σ102)) (bnd (σ102.1 a0 20) fun z105 => cl2 (g_M_number σ102 a0 (0 : Int32) (9 : Int32)) fun r107 σ106 => ite2 (r107 = 0) (some ((0 : Int32), σ106)) (cl2 (g_M_newMule σ106 a0 z101 z105 (σ106.1 a0 20)) fun r110 σ109 => cl2 (g_M_next σ109 a0) fun r112 σ111 => cl2 (g_M_isWord σ111 a0 6) fun r114 σ113 => ite2 (r114 = 0) (g_M_statement_274 σ113 a0 z105 r110) (cl2 (g_M_number σ113 a0 (0 : Int32) (σ113.1 a0 3)) fun r117 σ116 => ite2 (r117 = 0) (some ((0 : Int32), σ116)) (drf (σ116.2.2 a0 8) fun b119 => grd (ns_kd b119 = 10) <| grd (ns_in r110 (ns_ln b119)) <| bnd (ns_pI σ116 b119 (ns_ix r110) (σ116.1 a0 20)) fun σ121 => cl2 (g_M_next σ121 a0) fun r123 σ122 => g_M_statement_274 σ122 a0 z105 r110)))))))) (cl2 (g_M_number σ a0 (0 : Int32) (σ.1 a0 3)) fun r125 σ124 => ite2 (r125 = 0) (some ((0 : Int32), σ124)) (cl2 (g_M_canBe σ124 a0 (σ124.1 a0 20) s0) fun r128 σ127 => ite2 (r128 = 0) (some ((0 : Int32), σ127)) (drf (σ127.2.2 a0 4) fun b130 => grd (ns_kd b130 = 10) <| bnd (σ127.1 a0 20) fun z131 => grd (ns_in z131 (ns_ln b130)) <| grd (ns_in z131 (ns_ln b130)) <| bnd (ns_pI σ127 b130 (ns_ix z131) ((σ127.1 b130 (ns_ix z131)) ||| s0)) fun σ134 => cl2 (g_M_next σ134 a0) fun r136 σ135 => some ((1 : Int32), σ135))))
def g_M_statement_53  (σ : ns_St) (a0 : Nat) : Option (Int32 × ns_St) := cl2 (g_M_isWord σ a0 1) fun r138 σ137 => ite2 (r138 = 0) (cl2 (g_M_isWord σ137 a0 2) fun r141 σ140 => ite2 (r141 = 0) (cl2 (g_M_isWord σ140 a0 3) fun r144 σ143 => ite2 (r144 = 0) (cl2 (g_M_isWord σ143 a0 4) fun r147 σ146 => ite2 (r147 = 0) (g_M_statement_107 σ146 (0 : Int32) a0) (g_M_statement_107 σ146 (8 : Int32) a0)) (g_M_statement_107 σ143 (4 : Int32) a0)) (g_M_statement_107 σ140 (2 : Int32) a0)) (g_M_statement_107 σ137 (1 : Int32) a0)
def g_M_statement (σ : ns_St) (a0 : Nat) : Option (Int32 × ns_St) := grd (ns_kd a0 = 9) <| ite2 ((σ.1 a0 5) = 0) (cl2 (g_M_isWord σ a0 0) fun r151 σ150 => ite2 (r151 = 0) (g_M_statement_53 σ150 a0) (cl2 (g_M_number σ150 a0 (1 : Int32) (60 : Int32)) fun r154 σ153 => ite2 (r154 = 0) (some ((0 : Int32), σ153)) (cl2 (g_M_highest σ153 a0) fun r157 σ156 => ite2 (r157 ≤ (σ156.1 a0 20)) (cl2 (g_M_longer σ156 a0 (σ156.1 a0 20)) fun r160 σ159 => cl2 (g_M_next σ159 a0) fun r162 σ161 => some ((1 : Int32), σ161)) (some ((0 : Int32), σ156))))) (g_M_statement_53 σ a0)
theorem t_M_statement_274 (G : ns_G) (l : Launch) {p : Program} {e : Env} {s : State} {m : MethodId} {args : Array Value} {below : List Frame} {meth : Method} {c : Code} (C : ns_Cx G p s m args meth c prog_11_method_35_code "NinthStepModel" 5) (hr : meth.sig.returnType = (some .boolean)) {r : Int32} {σ' : ns_St}  (σ : ns_St) (a0 : Nat) (x3 : Int32) (x4 : Int32) (hk_a0 : ns_kd a0 = 9) (hf : g_M_statement_274 σ a0 x3 x4 = some (r, σ')) : VV G p l e { frames := 5, cells := 0, slots := 0, locals := 107 } s m args below meth c 5 0 0 (MQ below (ns_Qc G (some (.int r)) ns_N σ') args s 0 0 (ns_A G)) ns_N σ 274 [(0, .ref (G.1 + a0)), (3, .int x3), (4, .int x4)] [] := by
  unfold g_M_statement_274 at hf
  refine v_aload_n C 0 0 rfl 275 rfl (by decide +kernel) ?_
  refine v_ldcS C 173 "count" 7 (by decide) 277 rfl (by decide +kernel) ?_
  obtain ⟨r83, σ82, hcr83, hf⟩ := cl2_e hf
  refine v_cV C 9 rfl (ns_kd_lt hk_a0 (by decide)) hk_a0 (by decide) [.ref (ns_sK G 7)] [] (c_M_isWord G l σ a0 7 hcr83) 156 1 tw_1209 tw_1206 tw_1208 ts_88 tw_10 hd_M_isWord rfl ⟨(Nat.le_of_ble_eq_true rfl), (Nat.le_of_ble_eq_true rfl)⟩ ⟨(Nat.le_of_ble_eq_true rfl), (Nat.le_of_ble_eq_true rfl)⟩ (Nat.le_of_ble_eq_true rfl) rfl 280 rfl (by decide +kernel) [.int r83] rfl ?_
  refine v_if_ne C 285 283 rfl (by decide +kernel) (fun h84 => ?_) (fun h84 => ?_)
  · have hf := ite2_f hf h84
    refine v_aload_n C 0 0 rfl 286 rfl (by decide +kernel) ?_
    refine v_iconst C (0) (0) (by decide) 287 rfl (by decide +kernel) ?_
    refine v_iload_n C 3 1 rfl 288 rfl (by decide +kernel) ?_
    refine v_iconst C (1) (1) (by decide) 289 rfl (by decide +kernel) ?_
    refine v_isub C 290 rfl (by decide +kernel) ?_
    obtain ⟨r86, σ85, hcr86, hf⟩ := cl2_e hf
    refine v_cV C 9 rfl (ns_kd_lt hk_a0 (by decide)) hk_a0 (by decide) [.int (0 : Int32), .int (x3 - (1 : Int32))] [] (c_M_number G l σ82 a0 (0 : Int32) (x3 - (1 : Int32)) hcr86) 160 2 tw_1215 tw_1212 tw_1214 ts_89 tw_10 hd_M_number rfl ⟨(Nat.le_of_ble_eq_true rfl), (Nat.le_of_ble_eq_true rfl)⟩ ⟨(Nat.le_of_ble_eq_true rfl), (Nat.le_of_ble_eq_true rfl)⟩ (Nat.le_of_ble_eq_true rfl) rfl 293 rfl (by decide +kernel) [.int r86] rfl ?_
    refine v_if_ne C 298 296 rfl (by decide +kernel) (fun h87 => ?_) (fun h87 => ?_)
    · have hf := ite2_f hf h87
      refine v_aload_n C 0 0 rfl 299 rfl (by decide +kernel) ?_
      obtain ⟨b88, hb88, hf⟩ := drf_e hf
      obtain ⟨hk_b88, hf⟩ := grd_e hf
      refine v_getR C 9 9 hb88 rfl nin_9 (ns_kd_lt hk_a0 (by decide)) hk_a0 (by decide) (by decide) rfl 32 tw_984 rfl 302 rfl (by decide +kernel) ?_
      refine v_iload C 4 2 rfl 304 rfl (by decide +kernel) ?_
      refine v_aload_n C 0 0 rfl 305 rfl (by decide +kernel) ?_
      refine v_getI C 9 20 rfl nin_9 (ns_kd_lt hk_a0 (by decide)) hk_a0 (by decide) (by decide) rfl 140 tw_995 rfl 308 rfl (by decide +kernel) ?_
      obtain ⟨hi89, hf⟩ := grd_e hf
      obtain ⟨σ90, hσ90, hf⟩ := bnd_e hf
      refine v_iast C hσ90 (ns_kd_lt hk_b88 (by decide)) hk_b88 hi89 309 rfl (by decide +kernel) ?_
      refine v_aload_n C 0 0 rfl 310 rfl (by decide +kernel) ?_
      obtain ⟨r92, σ91, hcr92, hf⟩ := cl2_e hf
      refine v_cV C 9 rfl (ns_kd_lt hk_a0 (by decide)) hk_a0 (by decide) [] [] (c_M_next G l σ90 a0 hcr92) 152 0 tw_1194 tw_1191 tw_1193 ts_86 tw_10 hd_M_next rfl ⟨(Nat.le_of_ble_eq_true rfl), (Nat.le_of_ble_eq_true rfl)⟩ ⟨(Nat.le_of_ble_eq_true rfl), (Nat.le_of_ble_eq_true rfl)⟩ (Nat.le_of_ble_eq_true rfl) rfl 313 rfl (by decide +kernel) [] rfl ?_
      refine v_iconst C (1) (1) (by decide) 314 rfl (by decide +kernel) ?_
      obtain ⟨rfl, rfl⟩ := ret_e hf
      exact v_zret C hr rfl (by decide +kernel)
    · have hf := ite2_t hf h87
      refine v_iconst C (0) (0) (by decide) 297 rfl (by decide +kernel) ?_
      obtain ⟨rfl, rfl⟩ := ret_e hf
      exact v_zret C hr rfl (by decide +kernel)
  · have hf := ite2_t hf h84
    refine v_iconst C (1) (1) (by decide) 284 rfl (by decide +kernel) ?_
    obtain ⟨rfl, rfl⟩ := ret_e hf
    exact v_zret C hr rfl (by decide +kernel)
theorem t_M_statement_107 (G : ns_G) (l : Launch) {p : Program} {e : Env} {s : State} {m : MethodId} {args : Array Value} {below : List Frame} {meth : Method} {c : Code} (C : ns_Cx G p s m args meth c prog_11_method_35_code "NinthStepModel" 5) (hr : meth.sig.returnType = (some .boolean)) {r : Int32} {σ' : ns_St}  (σ : ns_St) (s0 : Int32) (a0 : Nat) (hk_a0 : ns_kd a0 = 9) (hf : g_M_statement_107 σ s0 a0 = some (r, σ')) : VV G p l e { frames := 5, cells := 0, slots := 0, locals := 107 } s m args below meth c 5 0 0 (MQ below (ns_Qc G (some (.int r)) ns_N σ') args s 0 0 (ns_A G)) ns_N σ 107 [(0, .ref (G.1 + a0))] [.int s0] := by
  unfold g_M_statement_107 at hf
  refine v_istore_n C 1 [(1, .int s0), (0, .ref (G.1 + a0))] (by decide) rfl 108 rfl (by decide +kernel) ?_
  refine v_iload_n C 1 0 rfl 109 rfl (by decide +kernel) ?_
  refine v_if_le C 157 112 rfl (by decide +kernel) (fun h93 => ?_) (fun h93 => ?_)
  · have hf := ite2_t hf h93
    refine v_aload_n C 0 1 rfl 158 rfl (by decide +kernel) ?_
    refine v_getI C 9 5 rfl nin_9 (ns_kd_lt hk_a0 (by decide)) hk_a0 (by decide) (by decide) rfl 66 tw_980 rfl 161 rfl (by decide +kernel) ?_
    refine v_bipush C (6) (6) (by decide) 163 rfl (by decide +kernel) ?_
    refine v_icmp_eq C 184 166 rfl (by decide +kernel) (fun h94 => ?_) (fun h94 => ?_)
    · have hf := ite2_t hf h94
      refine v_iconst C (0) (0) (by decide) 185 rfl (by decide +kernel) ?_
      obtain ⟨rfl, rfl⟩ := ret_e hf
      exact v_zret C hr rfl (by decide +kernel)
    · have hf := ite2_f hf h94
      refine v_aload_n C 0 1 rfl 167 rfl (by decide +kernel) ?_
      refine v_ldcS C 170 "mule" 5 (by decide) 169 rfl (by decide +kernel) ?_
      obtain ⟨r96, σ95, hcr96, hf⟩ := cl2_e hf
      refine v_cV C 9 rfl (ns_kd_lt hk_a0 (by decide)) hk_a0 (by decide) [.ref (ns_sK G 5)] [] (c_M_isWord G l σ a0 5 hcr96) 156 1 tw_1209 tw_1206 tw_1208 ts_88 tw_10 hd_M_isWord rfl ⟨(Nat.le_of_ble_eq_true rfl), (Nat.le_of_ble_eq_true rfl)⟩ ⟨(Nat.le_of_ble_eq_true rfl), (Nat.le_of_ble_eq_true rfl)⟩ (Nat.le_of_ble_eq_true rfl) rfl 172 rfl (by decide +kernel) [.int r96] rfl ?_
      refine v_if_eq C 184 175 rfl (by decide +kernel) (fun h97 => ?_) (fun h97 => ?_)
      · have hf := ite2_t hf h97
        refine v_iconst C (0) (0) (by decide) 185 rfl (by decide +kernel) ?_
        obtain ⟨rfl, rfl⟩ := ret_e hf
        exact v_zret C hr rfl (by decide +kernel)
      · have hf := ite2_f hf h97
        refine v_aload_n C 0 1 rfl 176 rfl (by decide +kernel) ?_
        refine v_iconst C (0) (0) (by decide) 177 rfl (by decide +kernel) ?_
        refine v_iconst C (5) (5) (by decide) 178 rfl (by decide +kernel) ?_
        obtain ⟨r99, σ98, hcr99, hf⟩ := cl2_e hf
        refine v_cV C 9 rfl (ns_kd_lt hk_a0 (by decide)) hk_a0 (by decide) [.int (0 : Int32), .int (5 : Int32)] [] (c_M_number G l σ95 a0 (0 : Int32) (5 : Int32) hcr99) 160 2 tw_1215 tw_1212 tw_1214 ts_89 tw_10 hd_M_number rfl ⟨(Nat.le_of_ble_eq_true rfl), (Nat.le_of_ble_eq_true rfl)⟩ ⟨(Nat.le_of_ble_eq_true rfl), (Nat.le_of_ble_eq_true rfl)⟩ (Nat.le_of_ble_eq_true rfl) rfl 181 rfl (by decide +kernel) [.int r99] rfl ?_
        refine v_if_ne C 186 184 rfl (by decide +kernel) (fun h100 => ?_) (fun h100 => ?_)
        · have hf := ite2_f hf h100
          refine v_aload_n C 0 1 rfl 187 rfl (by decide +kernel) ?_
          refine v_getI C 9 20 rfl nin_9 (ns_kd_lt hk_a0 (by decide)) hk_a0 (by decide) (by decide) rfl 140 tw_995 rfl 190 rfl (by decide +kernel) ?_
          obtain ⟨z101, hz101, hf⟩ := bnd_e hf
          refine v_nmI hz101 ?_
          refine v_istore_n C 2 [(2, .int z101), (1, .int s0), (0, .ref (G.1 + a0))] (by decide) rfl 191 rfl (by decide +kernel) ?_
          refine v_aload_n C 0 2 rfl 192 rfl (by decide +kernel) ?_
          refine v_iconst C (2) (2) (by decide) 193 rfl (by decide +kernel) ?_
          refine v_bipush C (13) (13) (by decide) 195 rfl (by decide +kernel) ?_
          obtain ⟨r103, σ102, hcr103, hf⟩ := cl2_e hf
          refine v_cV C 9 rfl (ns_kd_lt hk_a0 (by decide)) hk_a0 (by decide) [.int (2 : Int32), .int (13 : Int32)] [] (c_M_number G l σ98 a0 (2 : Int32) (13 : Int32) hcr103) 160 2 tw_1215 tw_1212 tw_1214 ts_89 tw_10 hd_M_number rfl ⟨(Nat.le_of_ble_eq_true rfl), (Nat.le_of_ble_eq_true rfl)⟩ ⟨(Nat.le_of_ble_eq_true rfl), (Nat.le_of_ble_eq_true rfl)⟩ (Nat.le_of_ble_eq_true rfl) rfl 198 rfl (by decide +kernel) [.int r103] rfl ?_
          refine v_if_ne C 203 201 rfl (by decide +kernel) (fun h104 => ?_) (fun h104 => ?_)
          · have hf := ite2_f hf h104
            refine v_aload_n C 0 2 rfl 204 rfl (by decide +kernel) ?_
            refine v_getI C 9 20 rfl nin_9 (ns_kd_lt hk_a0 (by decide)) hk_a0 (by decide) (by decide) rfl 140 tw_995 rfl 207 rfl (by decide +kernel) ?_
            obtain ⟨z105, hz105, hf⟩ := bnd_e hf
            refine v_nmI hz105 ?_
            refine v_istore_n C 3 [(3, .int z105), (2, .int z101), (1, .int s0), (0, .ref (G.1 + a0))] (by decide) rfl 208 rfl (by decide +kernel) ?_
            refine v_aload_n C 0 3 rfl 209 rfl (by decide +kernel) ?_
            refine v_iconst C (0) (0) (by decide) 210 rfl (by decide +kernel) ?_
            refine v_bipush C (9) (9) (by decide) 212 rfl (by decide +kernel) ?_
            obtain ⟨r107, σ106, hcr107, hf⟩ := cl2_e hf
            refine v_cV C 9 rfl (ns_kd_lt hk_a0 (by decide)) hk_a0 (by decide) [.int (0 : Int32), .int (9 : Int32)] [] (c_M_number G l σ102 a0 (0 : Int32) (9 : Int32) hcr107) 160 2 tw_1215 tw_1212 tw_1214 ts_89 tw_10 hd_M_number rfl ⟨(Nat.le_of_ble_eq_true rfl), (Nat.le_of_ble_eq_true rfl)⟩ ⟨(Nat.le_of_ble_eq_true rfl), (Nat.le_of_ble_eq_true rfl)⟩ (Nat.le_of_ble_eq_true rfl) rfl 215 rfl (by decide +kernel) [.int r107] rfl ?_
            refine v_if_ne C 220 218 rfl (by decide +kernel) (fun h108 => ?_) (fun h108 => ?_)
            · have hf := ite2_f hf h108
              refine v_aload_n C 0 3 rfl 221 rfl (by decide +kernel) ?_
              refine v_iload_n C 2 1 rfl 222 rfl (by decide +kernel) ?_
              refine v_iload_n C 3 0 rfl 223 rfl (by decide +kernel) ?_
              refine v_aload_n C 0 3 rfl 224 rfl (by decide +kernel) ?_
              refine v_getI C 9 20 rfl nin_9 (ns_kd_lt hk_a0 (by decide)) hk_a0 (by decide) (by decide) rfl 140 tw_995 rfl 227 rfl (by decide +kernel) ?_
              obtain ⟨r110, σ109, hcr110, hf⟩ := cl2_e hf
              refine v_cV C 9 rfl (ns_kd_lt hk_a0 (by decide)) hk_a0 (by decide) [.int z101, .int z105, .int (σ106.1 a0 20)] [] (c_M_newMule G l σ106 a0 z101 z105 (σ106.1 a0 20) hcr110) 115 3 tw_1162 tw_1159 tw_1161 ts_84 tw_10 hd_M_newMule rfl ⟨(Nat.le_of_ble_eq_true rfl), (Nat.le_of_ble_eq_true rfl)⟩ ⟨(Nat.le_of_ble_eq_true rfl), (Nat.le_of_ble_eq_true rfl)⟩ (Nat.le_of_ble_eq_true rfl) rfl 230 rfl (by decide +kernel) [.int r110] rfl ?_
              refine v_istore C 4 [(4, .int r110), (3, .int z105), (2, .int z101), (1, .int s0), (0, .ref (G.1 + a0))] (by decide) rfl 232 rfl (by decide +kernel) ?_
              refine v_aload_n C 0 4 rfl 233 rfl (by decide +kernel) ?_
              obtain ⟨r112, σ111, hcr112, hf⟩ := cl2_e hf
              refine v_cV C 9 rfl (ns_kd_lt hk_a0 (by decide)) hk_a0 (by decide) [] [] (c_M_next G l σ109 a0 hcr112) 152 0 tw_1194 tw_1191 tw_1193 ts_86 tw_10 hd_M_next rfl ⟨(Nat.le_of_ble_eq_true rfl), (Nat.le_of_ble_eq_true rfl)⟩ ⟨(Nat.le_of_ble_eq_true rfl), (Nat.le_of_ble_eq_true rfl)⟩ (Nat.le_of_ble_eq_true rfl) rfl 236 rfl (by decide +kernel) [] rfl ?_
              refine v_aload_n C 0 4 rfl 237 rfl (by decide +kernel) ?_
              refine v_ldcS C 172 "at" 6 (by decide) 239 rfl (by decide +kernel) ?_
              obtain ⟨r114, σ113, hcr114, hf⟩ := cl2_e hf
              refine v_cV C 9 rfl (ns_kd_lt hk_a0 (by decide)) hk_a0 (by decide) [.ref (ns_sK G 6)] [] (c_M_isWord G l σ111 a0 6 hcr114) 156 1 tw_1209 tw_1206 tw_1208 ts_88 tw_10 hd_M_isWord rfl ⟨(Nat.le_of_ble_eq_true rfl), (Nat.le_of_ble_eq_true rfl)⟩ ⟨(Nat.le_of_ble_eq_true rfl), (Nat.le_of_ble_eq_true rfl)⟩ (Nat.le_of_ble_eq_true rfl) rfl 242 rfl (by decide +kernel) [.int r114] rfl ?_
              refine v_if_eq C 274 245 rfl (by decide +kernel) (fun h115 => ?_) (fun h115 => ?_)
              · have hf := ite2_t hf h115
                refine v_sub [4, 1, 0] rfl ?_
                exact t_M_statement_274 G l C hr  σ113 a0 z105 r110 hk_a0 hf
              · have hf := ite2_f hf h115
                refine v_aload_n C 0 4 rfl 246 rfl (by decide +kernel) ?_
                refine v_iconst C (0) (0) (by decide) 247 rfl (by decide +kernel) ?_
                refine v_aload_n C 0 4 rfl 248 rfl (by decide +kernel) ?_
                refine v_getI C 9 3 rfl nin_9 (ns_kd_lt hk_a0 (by decide)) hk_a0 (by decide) (by decide) rfl 59 tw_978 rfl 251 rfl (by decide +kernel) ?_
                obtain ⟨r117, σ116, hcr117, hf⟩ := cl2_e hf
                refine v_cV C 9 rfl (ns_kd_lt hk_a0 (by decide)) hk_a0 (by decide) [.int (0 : Int32), .int (σ113.1 a0 3)] [] (c_M_number G l σ113 a0 (0 : Int32) (σ113.1 a0 3) hcr117) 160 2 tw_1215 tw_1212 tw_1214 ts_89 tw_10 hd_M_number rfl ⟨(Nat.le_of_ble_eq_true rfl), (Nat.le_of_ble_eq_true rfl)⟩ ⟨(Nat.le_of_ble_eq_true rfl), (Nat.le_of_ble_eq_true rfl)⟩ (Nat.le_of_ble_eq_true rfl) rfl 254 rfl (by decide +kernel) [.int r117] rfl ?_
                refine v_if_ne C 259 257 rfl (by decide +kernel) (fun h118 => ?_) (fun h118 => ?_)
                · have hf := ite2_f hf h118
                  refine v_aload_n C 0 4 rfl 260 rfl (by decide +kernel) ?_
                  obtain ⟨b119, hb119, hf⟩ := drf_e hf
                  obtain ⟨hk_b119, hf⟩ := grd_e hf
                  refine v_getR C 9 8 hb119 rfl nin_9 (ns_kd_lt hk_a0 (by decide)) hk_a0 (by decide) (by decide) rfl 29 tw_983 rfl 263 rfl (by decide +kernel) ?_
                  refine v_iload C 4 0 rfl 265 rfl (by decide +kernel) ?_
                  refine v_aload_n C 0 4 rfl 266 rfl (by decide +kernel) ?_
                  refine v_getI C 9 20 rfl nin_9 (ns_kd_lt hk_a0 (by decide)) hk_a0 (by decide) (by decide) rfl 140 tw_995 rfl 269 rfl (by decide +kernel) ?_
                  obtain ⟨hi120, hf⟩ := grd_e hf
                  obtain ⟨σ121, hσ121, hf⟩ := bnd_e hf
                  refine v_iast C hσ121 (ns_kd_lt hk_b119 (by decide)) hk_b119 hi120 270 rfl (by decide +kernel) ?_
                  refine v_aload_n C 0 4 rfl 271 rfl (by decide +kernel) ?_
                  obtain ⟨r123, σ122, hcr123, hf⟩ := cl2_e hf
                  refine v_cV C 9 rfl (ns_kd_lt hk_a0 (by decide)) hk_a0 (by decide) [] [] (c_M_next G l σ121 a0 hcr123) 152 0 tw_1194 tw_1191 tw_1193 ts_86 tw_10 hd_M_next rfl ⟨(Nat.le_of_ble_eq_true rfl), (Nat.le_of_ble_eq_true rfl)⟩ ⟨(Nat.le_of_ble_eq_true rfl), (Nat.le_of_ble_eq_true rfl)⟩ (Nat.le_of_ble_eq_true rfl) rfl 274 rfl (by decide +kernel) [] rfl ?_
                  refine v_sub [4, 1, 0] rfl ?_
                  exact t_M_statement_274 G l C hr  σ122 a0 z105 r110 hk_a0 hf
                · have hf := ite2_t hf h118
                  refine v_iconst C (0) (0) (by decide) 258 rfl (by decide +kernel) ?_
                  obtain ⟨rfl, rfl⟩ := ret_e hf
                  exact v_zret C hr rfl (by decide +kernel)
            · have hf := ite2_t hf h108
              refine v_iconst C (0) (0) (by decide) 219 rfl (by decide +kernel) ?_
              obtain ⟨rfl, rfl⟩ := ret_e hf
              exact v_zret C hr rfl (by decide +kernel)
          · have hf := ite2_t hf h104
            refine v_iconst C (0) (0) (by decide) 202 rfl (by decide +kernel) ?_
            obtain ⟨rfl, rfl⟩ := ret_e hf
            exact v_zret C hr rfl (by decide +kernel)
        · have hf := ite2_t hf h100
          refine v_iconst C (0) (0) (by decide) 185 rfl (by decide +kernel) ?_
          obtain ⟨rfl, rfl⟩ := ret_e hf
          exact v_zret C hr rfl (by decide +kernel)
  · have hf := ite2_f hf h93
    refine v_aload_n C 0 1 rfl 113 rfl (by decide +kernel) ?_
    refine v_iconst C (0) (0) (by decide) 114 rfl (by decide +kernel) ?_
    refine v_aload_n C 0 1 rfl 115 rfl (by decide +kernel) ?_
    refine v_getI C 9 3 rfl nin_9 (ns_kd_lt hk_a0 (by decide)) hk_a0 (by decide) (by decide) rfl 59 tw_978 rfl 118 rfl (by decide +kernel) ?_
    obtain ⟨r125, σ124, hcr125, hf⟩ := cl2_e hf
    refine v_cV C 9 rfl (ns_kd_lt hk_a0 (by decide)) hk_a0 (by decide) [.int (0 : Int32), .int (σ.1 a0 3)] [] (c_M_number G l σ a0 (0 : Int32) (σ.1 a0 3) hcr125) 160 2 tw_1215 tw_1212 tw_1214 ts_89 tw_10 hd_M_number rfl ⟨(Nat.le_of_ble_eq_true rfl), (Nat.le_of_ble_eq_true rfl)⟩ ⟨(Nat.le_of_ble_eq_true rfl), (Nat.le_of_ble_eq_true rfl)⟩ (Nat.le_of_ble_eq_true rfl) rfl 121 rfl (by decide +kernel) [.int r125] rfl ?_
    refine v_if_eq C 136 124 rfl (by decide +kernel) (fun h126 => ?_) (fun h126 => ?_)
    · have hf := ite2_t hf h126
      refine v_iconst C (0) (0) (by decide) 137 rfl (by decide +kernel) ?_
      obtain ⟨rfl, rfl⟩ := ret_e hf
      exact v_zret C hr rfl (by decide +kernel)
    · have hf := ite2_f hf h126
      refine v_aload_n C 0 1 rfl 125 rfl (by decide +kernel) ?_
      refine v_aload_n C 0 1 rfl 126 rfl (by decide +kernel) ?_
      refine v_getI C 9 20 rfl nin_9 (ns_kd_lt hk_a0 (by decide)) hk_a0 (by decide) (by decide) rfl 140 tw_995 rfl 129 rfl (by decide +kernel) ?_
      refine v_iload_n C 1 0 rfl 130 rfl (by decide +kernel) ?_
      obtain ⟨r128, σ127, hcr128, hf⟩ := cl2_e hf
      refine v_cV C 9 rfl (ns_kd_lt hk_a0 (by decide)) hk_a0 (by decide) [.int (σ124.1 a0 20), .int s0] [] (c_M_canBe G l σ124 a0 (σ124.1 a0 20) s0 hcr128) 112 2 tw_1154 tw_1151 tw_1153 ts_83 tw_10 hd_M_canBe rfl ⟨(Nat.le_of_ble_eq_true rfl), (Nat.le_of_ble_eq_true rfl)⟩ ⟨(Nat.le_of_ble_eq_true rfl), (Nat.le_of_ble_eq_true rfl)⟩ (Nat.le_of_ble_eq_true rfl) rfl 133 rfl (by decide +kernel) [.int r128] rfl ?_
      refine v_if_ne C 138 136 rfl (by decide +kernel) (fun h129 => ?_) (fun h129 => ?_)
      · have hf := ite2_f hf h129
        refine v_aload_n C 0 1 rfl 139 rfl (by decide +kernel) ?_
        obtain ⟨b130, hb130, hf⟩ := drf_e hf
        obtain ⟨hk_b130, hf⟩ := grd_e hf
        refine v_getR C 9 4 hb130 rfl nin_9 (ns_kd_lt hk_a0 (by decide)) hk_a0 (by decide) (by decide) rfl 20 tw_979 rfl 142 rfl (by decide +kernel) ?_
        refine v_aload_n C 0 1 rfl 143 rfl (by decide +kernel) ?_
        refine v_getI C 9 20 rfl nin_9 (ns_kd_lt hk_a0 (by decide)) hk_a0 (by decide) (by decide) rfl 140 tw_995 rfl 146 rfl (by decide +kernel) ?_
        obtain ⟨z131, hz131, hf⟩ := bnd_e hf
        refine v_nmI hz131 ?_
        refine v_dup2_11 C rfl rfl 147 rfl (by decide +kernel) ?_
        obtain ⟨hi132, hf⟩ := grd_e hf
        refine v_iald C (ns_kd_lt hk_b130 (by decide)) hk_b130 hi132 148 rfl (by decide +kernel) ?_
        refine v_iload_n C 1 0 rfl 149 rfl (by decide +kernel) ?_
        refine v_ior C 150 rfl (by decide +kernel) ?_
        obtain ⟨hi133, hf⟩ := grd_e hf
        obtain ⟨σ134, hσ134, hf⟩ := bnd_e hf
        refine v_iast C hσ134 (ns_kd_lt hk_b130 (by decide)) hk_b130 hi133 151 rfl (by decide +kernel) ?_
        refine v_aload_n C 0 1 rfl 152 rfl (by decide +kernel) ?_
        obtain ⟨r136, σ135, hcr136, hf⟩ := cl2_e hf
        refine v_cV C 9 rfl (ns_kd_lt hk_a0 (by decide)) hk_a0 (by decide) [] [] (c_M_next G l σ134 a0 hcr136) 152 0 tw_1194 tw_1191 tw_1193 ts_86 tw_10 hd_M_next rfl ⟨(Nat.le_of_ble_eq_true rfl), (Nat.le_of_ble_eq_true rfl)⟩ ⟨(Nat.le_of_ble_eq_true rfl), (Nat.le_of_ble_eq_true rfl)⟩ (Nat.le_of_ble_eq_true rfl) rfl 155 rfl (by decide +kernel) [] rfl ?_
        refine v_iconst C (1) (1) (by decide) 156 rfl (by decide +kernel) ?_
        obtain ⟨rfl, rfl⟩ := ret_e hf
        exact v_zret C hr rfl (by decide +kernel)
      · have hf := ite2_t hf h129
        refine v_iconst C (0) (0) (by decide) 137 rfl (by decide +kernel) ?_
        obtain ⟨rfl, rfl⟩ := ret_e hf
        exact v_zret C hr rfl (by decide +kernel)
theorem t_M_statement_53 (G : ns_G) (l : Launch) {p : Program} {e : Env} {s : State} {m : MethodId} {args : Array Value} {below : List Frame} {meth : Method} {c : Code} (C : ns_Cx G p s m args meth c prog_11_method_35_code "NinthStepModel" 5) (hr : meth.sig.returnType = (some .boolean)) {r : Int32} {σ' : ns_St}  (σ : ns_St) (a0 : Nat) (hk_a0 : ns_kd a0 = 9) (hf : g_M_statement_53 σ a0 = some (r, σ')) : VV G p l e { frames := 5, cells := 0, slots := 0, locals := 107 } s m args below meth c 5 0 0 (MQ below (ns_Qc G (some (.int r)) ns_N σ') args s 0 0 (ns_A G)) ns_N σ 53 [(0, .ref (G.1 + a0))] [] := by
  unfold g_M_statement_53 at hf
  refine v_aload_n C 0 0 rfl 54 rfl (by decide +kernel) ?_
  refine v_ldcS C 162 "stone" 1 (by decide) 56 rfl (by decide +kernel) ?_
  obtain ⟨r138, σ137, hcr138, hf⟩ := cl2_e hf
  refine v_cV C 9 rfl (ns_kd_lt hk_a0 (by decide)) hk_a0 (by decide) [.ref (ns_sK G 1)] [] (c_M_isWord G l σ a0 1 hcr138) 156 1 tw_1209 tw_1206 tw_1208 ts_88 tw_10 hd_M_isWord rfl ⟨(Nat.le_of_ble_eq_true rfl), (Nat.le_of_ble_eq_true rfl)⟩ ⟨(Nat.le_of_ble_eq_true rfl), (Nat.le_of_ble_eq_true rfl)⟩ (Nat.le_of_ble_eq_true rfl) rfl 59 rfl (by decide +kernel) [.int r138] rfl ?_
  refine v_if_eq C 66 62 rfl (by decide +kernel) (fun h139 => ?_) (fun h139 => ?_)
  · have hf := ite2_t hf h139
    refine v_aload_n C 0 0 rfl 67 rfl (by decide +kernel) ?_
    refine v_ldcS C 164 "inn" 2 (by decide) 69 rfl (by decide +kernel) ?_
    obtain ⟨r141, σ140, hcr141, hf⟩ := cl2_e hf
    refine v_cV C 9 rfl (ns_kd_lt hk_a0 (by decide)) hk_a0 (by decide) [.ref (ns_sK G 2)] [] (c_M_isWord G l σ137 a0 2 hcr141) 156 1 tw_1209 tw_1206 tw_1208 ts_88 tw_10 hd_M_isWord rfl ⟨(Nat.le_of_ble_eq_true rfl), (Nat.le_of_ble_eq_true rfl)⟩ ⟨(Nat.le_of_ble_eq_true rfl), (Nat.le_of_ble_eq_true rfl)⟩ (Nat.le_of_ble_eq_true rfl) rfl 72 rfl (by decide +kernel) [.int r141] rfl ?_
    refine v_if_eq C 79 75 rfl (by decide +kernel) (fun h142 => ?_) (fun h142 => ?_)
    · have hf := ite2_t hf h142
      refine v_aload_n C 0 0 rfl 80 rfl (by decide +kernel) ?_
      refine v_ldcS C 166 "cliff" 3 (by decide) 82 rfl (by decide +kernel) ?_
      obtain ⟨r144, σ143, hcr144, hf⟩ := cl2_e hf
      refine v_cV C 9 rfl (ns_kd_lt hk_a0 (by decide)) hk_a0 (by decide) [.ref (ns_sK G 3)] [] (c_M_isWord G l σ140 a0 3 hcr144) 156 1 tw_1209 tw_1206 tw_1208 ts_88 tw_10 hd_M_isWord rfl ⟨(Nat.le_of_ble_eq_true rfl), (Nat.le_of_ble_eq_true rfl)⟩ ⟨(Nat.le_of_ble_eq_true rfl), (Nat.le_of_ble_eq_true rfl)⟩ (Nat.le_of_ble_eq_true rfl) rfl 85 rfl (by decide +kernel) [.int r144] rfl ?_
      refine v_if_eq C 92 88 rfl (by decide +kernel) (fun h145 => ?_) (fun h145 => ?_)
      · have hf := ite2_t hf h145
        refine v_aload_n C 0 0 rfl 93 rfl (by decide +kernel) ?_
        refine v_ldcS C 168 "view" 4 (by decide) 95 rfl (by decide +kernel) ?_
        obtain ⟨r147, σ146, hcr147, hf⟩ := cl2_e hf
        refine v_cV C 9 rfl (ns_kd_lt hk_a0 (by decide)) hk_a0 (by decide) [.ref (ns_sK G 4)] [] (c_M_isWord G l σ143 a0 4 hcr147) 156 1 tw_1209 tw_1206 tw_1208 ts_88 tw_10 hd_M_isWord rfl ⟨(Nat.le_of_ble_eq_true rfl), (Nat.le_of_ble_eq_true rfl)⟩ ⟨(Nat.le_of_ble_eq_true rfl), (Nat.le_of_ble_eq_true rfl)⟩ (Nat.le_of_ble_eq_true rfl) rfl 98 rfl (by decide +kernel) [.int r147] rfl ?_
        refine v_if_eq C 106 101 rfl (by decide +kernel) (fun h148 => ?_) (fun h148 => ?_)
        · have hf := ite2_t hf h148
          refine v_iconst C (0) (0) (by decide) 107 rfl (by decide +kernel) ?_
          exact t_M_statement_107 G l C hr  σ146 (0 : Int32) a0 hk_a0 hf
        · have hf := ite2_f hf h148
          refine v_bipush C (8) (8) (by decide) 103 rfl (by decide +kernel) ?_
          refine v_goto C 107 (by decide +kernel) ?_
          exact t_M_statement_107 G l C hr  σ146 (8 : Int32) a0 hk_a0 hf
      · have hf := ite2_f hf h145
        refine v_iconst C (4) (4) (by decide) 89 rfl (by decide +kernel) ?_
        refine v_goto C 107 (by decide +kernel) ?_
        exact t_M_statement_107 G l C hr  σ143 (4 : Int32) a0 hk_a0 hf
    · have hf := ite2_f hf h142
      refine v_iconst C (2) (2) (by decide) 76 rfl (by decide +kernel) ?_
      refine v_goto C 107 (by decide +kernel) ?_
      exact t_M_statement_107 G l C hr  σ140 (2 : Int32) a0 hk_a0 hf
  · have hf := ite2_f hf h139
    refine v_iconst C (1) (1) (by decide) 63 rfl (by decide +kernel) ?_
    refine v_goto C 107 (by decide +kernel) ?_
    exact t_M_statement_107 G l C hr  σ137 (1 : Int32) a0 hk_a0 hf
theorem c_M_statement (G : ns_G) (l : Launch) (σ : ns_St) (a0 : Nat) {r : Int32} {σ' : ns_St} (hf : g_M_statement σ a0 = some (r, σ')) : ns_ok G l ⟨"NinthStepModel", "statement", "()Z"⟩ prog_11_method_35_code 5 (some .boolean) 5 107 0 0 [.ref (G.1 + a0)] ns_N σ (some (.int r)) ns_N σ' := by
  refine v_open (by decide) (Nat.le_of_ble_eq_true rfl) rfl ?_
  intro p e s m below meth c C hr _
  have C : ns_Cx G p s m _ meth c prog_11_method_35_code "NinthStepModel" 5 := C
  unfold g_M_statement at hf
  obtain ⟨hk_a0, hf⟩ := grd_e hf
  refine v_aload_n C 0 0 rfl 1 rfl (by decide +kernel) ?_
  refine v_getI C 9 5 rfl nin_9 (ns_kd_lt hk_a0 (by decide)) hk_a0 (by decide) (by decide) rfl 66 tw_980 rfl 4 rfl (by decide +kernel) ?_
  refine v_if_ne C 53 7 rfl (by decide +kernel) (fun h149 => ?_) (fun h149 => ?_)
  · have hf := ite2_f hf h149
    exact t_M_statement_53 G l C hr  σ a0 hk_a0 hf
  · have hf := ite2_t hf h149
    refine v_aload_n C 0 0 rfl 8 rfl (by decide +kernel) ?_
    refine v_ldcS C 155 "length" 0 (by decide) 10 rfl (by decide +kernel) ?_
    obtain ⟨r151, σ150, hcr151, hf⟩ := cl2_e hf
    refine v_cV C 9 rfl (ns_kd_lt hk_a0 (by decide)) hk_a0 (by decide) [.ref (ns_sK G 0)] [] (c_M_isWord G l σ a0 0 hcr151) 156 1 tw_1209 tw_1206 tw_1208 ts_88 tw_10 hd_M_isWord rfl ⟨(Nat.le_of_ble_eq_true rfl), (Nat.le_of_ble_eq_true rfl)⟩ ⟨(Nat.le_of_ble_eq_true rfl), (Nat.le_of_ble_eq_true rfl)⟩ (Nat.le_of_ble_eq_true rfl) rfl 13 rfl (by decide +kernel) [.int r151] rfl ?_
    refine v_if_eq C 53 16 rfl (by decide +kernel) (fun h152 => ?_) (fun h152 => ?_)
    · have hf := ite2_t hf h152
      exact t_M_statement_53 G l C hr  σ150 a0 hk_a0 hf
    · have hf := ite2_f hf h152
      refine v_aload_n C 0 0 rfl 17 rfl (by decide +kernel) ?_
      refine v_iconst C (1) (1) (by decide) 18 rfl (by decide +kernel) ?_
      refine v_bipush C (60) (60) (by decide) 20 rfl (by decide +kernel) ?_
      obtain ⟨r154, σ153, hcr154, hf⟩ := cl2_e hf
      refine v_cV C 9 rfl (ns_kd_lt hk_a0 (by decide)) hk_a0 (by decide) [.int (1 : Int32), .int (60 : Int32)] [] (c_M_number G l σ150 a0 (1 : Int32) (60 : Int32) hcr154) 160 2 tw_1215 tw_1212 tw_1214 ts_89 tw_10 hd_M_number rfl ⟨(Nat.le_of_ble_eq_true rfl), (Nat.le_of_ble_eq_true rfl)⟩ ⟨(Nat.le_of_ble_eq_true rfl), (Nat.le_of_ble_eq_true rfl)⟩ (Nat.le_of_ble_eq_true rfl) rfl 23 rfl (by decide +kernel) [.int r154] rfl ?_
      refine v_if_eq C 37 26 rfl (by decide +kernel) (fun h155 => ?_) (fun h155 => ?_)
      · have hf := ite2_t hf h155
        refine v_iconst C (0) (0) (by decide) 38 rfl (by decide +kernel) ?_
        obtain ⟨rfl, rfl⟩ := ret_e hf
        exact v_zret C hr rfl (by decide +kernel)
      · have hf := ite2_f hf h155
        refine v_aload_n C 0 0 rfl 27 rfl (by decide +kernel) ?_
        obtain ⟨r157, σ156, hcr157, hf⟩ := cl2_e hf
        refine v_cV C 9 rfl (ns_kd_lt hk_a0 (by decide)) hk_a0 (by decide) [] [] (c_M_highest G l σ153 a0 hcr157) 101 0 tw_1138 tw_1135 tw_1137 ts_80 tw_10 hd_M_highest rfl ⟨(Nat.le_of_ble_eq_true rfl), (Nat.le_of_ble_eq_true rfl)⟩ ⟨(Nat.le_of_ble_eq_true rfl), (Nat.le_of_ble_eq_true rfl)⟩ (Nat.le_of_ble_eq_true rfl) rfl 30 rfl (by decide +kernel) [.int r157] rfl ?_
        refine v_aload_n C 0 0 rfl 31 rfl (by decide +kernel) ?_
        refine v_getI C 9 20 rfl nin_9 (ns_kd_lt hk_a0 (by decide)) hk_a0 (by decide) (by decide) rfl 140 tw_995 rfl 34 rfl (by decide +kernel) ?_
        refine v_icmp_le C 39 37 rfl (by decide +kernel) (fun h158 => ?_) (fun h158 => ?_)
        · have hf := ite2_t hf h158
          refine v_aload_n C 0 0 rfl 40 rfl (by decide +kernel) ?_
          refine v_aload_n C 0 0 rfl 41 rfl (by decide +kernel) ?_
          refine v_getI C 9 20 rfl nin_9 (ns_kd_lt hk_a0 (by decide)) hk_a0 (by decide) (by decide) rfl 140 tw_995 rfl 44 rfl (by decide +kernel) ?_
          obtain ⟨r160, σ159, hcr160, hf⟩ := cl2_e hf
          refine v_cV C 9 rfl (ns_kd_lt hk_a0 (by decide)) hk_a0 (by decide) [.int (σ156.1 a0 20)] [] (c_M_longer G l σ156 a0 (σ156.1 a0 20) hcr160) 105 1 tw_1142 tw_1139 tw_1141 ts_81 tw_10 hd_M_longer rfl ⟨(Nat.le_of_ble_eq_true rfl), (Nat.le_of_ble_eq_true rfl)⟩ ⟨(Nat.le_of_ble_eq_true rfl), (Nat.le_of_ble_eq_true rfl)⟩ (Nat.le_of_ble_eq_true rfl) rfl 47 rfl (by decide +kernel) [] rfl ?_
          refine v_aload_n C 0 0 rfl 48 rfl (by decide +kernel) ?_
          obtain ⟨r162, σ161, hcr162, hf⟩ := cl2_e hf
          refine v_cV C 9 rfl (ns_kd_lt hk_a0 (by decide)) hk_a0 (by decide) [] [] (c_M_next G l σ159 a0 hcr162) 152 0 tw_1194 tw_1191 tw_1193 ts_86 tw_10 hd_M_next rfl ⟨(Nat.le_of_ble_eq_true rfl), (Nat.le_of_ble_eq_true rfl)⟩ ⟨(Nat.le_of_ble_eq_true rfl), (Nat.le_of_ble_eq_true rfl)⟩ (Nat.le_of_ble_eq_true rfl) rfl 51 rfl (by decide +kernel) [] rfl ?_
          refine v_iconst C (1) (1) (by decide) 52 rfl (by decide +kernel) ?_
          obtain ⟨rfl, rfl⟩ := ret_e hf
          exact v_zret C hr rfl (by decide +kernel)
        · have hf := ite2_f hf h158
          refine v_iconst C (0) (0) (by decide) 38 rfl (by decide +kernel) ?_
          obtain ⟨rfl, rfl⟩ := ret_e hf
          exact v_zret C hr rfl (by decide +kernel)
theorem hd_M_statement : (⟨"NinthStepModel", "statement", "()Z"⟩ : MethodName).cls = "NinthStepModel" ∧ (⟨"NinthStepModel", "statement", "()Z"⟩ : MethodName).cls ≠ "java/lang/invoke/MethodHandle" ∧ (⟨"NinthStepModel", "statement", "()Z"⟩ : MethodName).cls ≠ "java/lang/invoke/VarHandle" ∧ (parseMethodDescriptor (⟨"NinthStepModel", "statement", "()Z"⟩ : MethodName).desc).map (fun d => d.parameters.length) = some 0 := by decide +kernel
def g_M_again_25  : Nat → ns_St → Nat → Nat → Int32 → Option (Unit × ns_St)
  | 0, _, _, _, _ => none
  | f + 1, σ, a0, a1, x2 => ite2 ((6 : Int32) ≤ x2) (grd (ns_in (97 : Int32) (ns_ln a1)) <| bnd (ns_pI σ a0 3 (σ.1 a1 (ns_ix (97 : Int32)))) fun σ45 => grd (ns_in (98 : Int32) (ns_ln a1)) <| bnd (ns_pI σ45 a0 5 (σ45.1 a1 (ns_ix (98 : Int32)))) fun σ47 => grd (ns_in (99 : Int32) (ns_ln a1)) <| bnd (ns_pI σ47 a0 12 (σ47.1 a1 (ns_ix (99 : Int32)))) fun σ49 => grd (ns_in (100 : Int32) (ns_ln a1)) <| bnd (ns_pI σ49 a0 13 (σ49.1 a1 (ns_ix (100 : Int32)))) fun σ51 => grd (ns_in (101 : Int32) (ns_ln a1)) <| bnd (ns_pI σ51 a0 14 (σ51.1 a1 (ns_ix (101 : Int32)))) fun σ53 => some ((), σ53)) (drf (σ.2.2 a0 6) fun b54 => grd (ns_kd b54 = 10) <| grd (ns_in ((61 : Int32) + x2) (ns_ln a1)) <| grd (ns_in x2 (ns_ln b54)) <| bnd (ns_pI σ b54 (ns_ix x2) (σ.1 a1 (ns_ix ((61 : Int32) + x2)))) fun σ57 => drf (σ57.2.2 a0 7) fun b58 => grd (ns_kd b58 = 10) <| grd (ns_in ((67 : Int32) + x2) (ns_ln a1)) <| grd (ns_in x2 (ns_ln b58)) <| bnd (ns_pI σ57 b58 (ns_ix x2) (σ57.1 a1 (ns_ix ((67 : Int32) + x2)))) fun σ61 => drf (σ61.2.2 a0 8) fun b62 => grd (ns_kd b62 = 10) <| grd (ns_in ((73 : Int32) + x2) (ns_ln a1)) <| grd (ns_in x2 (ns_ln b62)) <| bnd (ns_pI σ61 b62 (ns_ix x2) (σ61.1 a1 (ns_ix ((73 : Int32) + x2)))) fun σ65 => drf (σ65.2.2 a0 9) fun b66 => grd (ns_kd b66 = 10) <| grd (ns_in ((79 : Int32) + x2) (ns_ln a1)) <| grd (ns_in x2 (ns_ln b66)) <| bnd (ns_pI σ65 b66 (ns_ix x2) (σ65.1 a1 (ns_ix ((79 : Int32) + x2)))) fun σ69 => drf (σ69.2.2 a0 10) fun b70 => grd (ns_kd b70 = 10) <| grd (ns_in ((85 : Int32) + x2) (ns_ln a1)) <| grd (ns_in x2 (ns_ln b70)) <| bnd (ns_pI σ69 b70 (ns_ix x2) (σ69.1 a1 (ns_ix ((85 : Int32) + x2)))) fun σ73 => drf (σ73.2.2 a0 11) fun b74 => grd (ns_kd b74 = 10) <| grd (ns_in ((91 : Int32) + x2) (ns_ln a1)) <| grd (ns_in x2 (ns_ln b74)) <| bnd (ns_pI σ73 b74 (ns_ix x2) (σ73.1 a1 (ns_ix ((91 : Int32) + x2)))) fun σ77 => bnd (x2 + 1) fun z78 => (g_M_again_25 f) σ77 a0 a1 z78)
def g_M_again_2  : Nat → ns_St → Nat → Nat → Int32 → Option (Unit × ns_St)
  | 0, _, _, _, _ => none
  | f + 1, σ, a0, a1, x2 => ite2 ((61 : Int32) ≤ x2) (g_M_again_25 ns_F σ a0 a1 (0 : Int32)) (drf (σ.2.2 a0 4) fun b80 => grd (ns_kd b80 = 10) <| grd (ns_in x2 (ns_ln a1)) <| grd (ns_in x2 (ns_ln b80)) <| bnd (ns_pI σ b80 (ns_ix x2) (σ.1 a1 (ns_ix x2))) fun σ83 => bnd (x2 + 1) fun z84 => (g_M_again_2 f) σ83 a0 a1 z84)
def g_M_again (σ : ns_St) (a0 : Nat) (a1 : Nat) : Option (Unit × ns_St) := grd (ns_kd a0 = 9) <| grd (ns_kd a1 = 10) <| g_M_again_2 ns_F σ a0 a1 (0 : Int32)
theorem t_M_again_25 (G : ns_G) (l : Launch) {p : Program} {e : Env} {s : State} {m : MethodId} {args : Array Value} {below : List Frame} {meth : Method} {c : Code} (C : ns_Cx G p s m args meth c prog_11_method_81_code "NinthStepModel" 3) (hr : meth.sig.returnType = none) {r : Unit} {σ' : ns_St}  : ∀ (f : Nat) (σ : ns_St) (a0 : Nat) (a1 : Nat) (x2 : Int32) (hk_a0 : ns_kd a0 = 9) (hk_a1 : ns_kd a1 = 10), g_M_again_25 f σ a0 a1 x2 = some (r, σ') → VV G p l e { frames := 0, cells := 0, slots := 0, locals := 0 } s m args below meth c 3 0 0 (MQ below (ns_Qc G none ns_N σ') args s 0 0 (ns_A G)) ns_N σ 25 [(0, .ref (G.1 + a0)), (1, .ref (G.1 + a1)), (2, .int x2)] [] := by
  intro f
  induction f with
  | zero =>
    intro σ a0 a1 x2 hk_a0 hk_a1 hf
    cases hf
  | succ f ih =>
    intro σ a0 a1 x2 hk_a0 hk_a1 hf
    rw [g_M_again_25] at hf
    refine v_iload_n C 2 2 rfl 26 rfl (by decide +kernel) ?_
    refine v_bipush C (6) (6) (by decide) 28 rfl (by decide +kernel) ?_
    refine v_icmp_ge C 109 31 rfl (by decide +kernel) (fun h43 => ?_) (fun h43 => ?_)
    · have hf := ite2_t hf h43
      refine v_aload_n C 0 0 rfl 110 rfl (by decide +kernel) ?_
      refine v_aload_n C 1 1 rfl 111 rfl (by decide +kernel) ?_
      refine v_bipush C (97) (97) (by decide) 113 rfl (by decide +kernel) ?_
      obtain ⟨hi44, hf⟩ := grd_e hf
      refine v_iald C (ns_kd_lt hk_a1 (by decide)) hk_a1 hi44 114 rfl (by decide +kernel) ?_
      obtain ⟨σ45, hσ45, hf⟩ := bnd_e hf
      refine v_putI C 9 3 hσ45 rfl nin_9 ny_9 nty_9 nnm_9 (ns_kd_lt hk_a0 (by decide)) hk_a0 (by decide) (by decide) rfl rfl rfl rfl 59 tw_978 rfl 117 rfl (by decide +kernel) ?_
      refine v_aload_n C 0 0 rfl 118 rfl (by decide +kernel) ?_
      refine v_aload_n C 1 1 rfl 119 rfl (by decide +kernel) ?_
      refine v_bipush C (98) (98) (by decide) 121 rfl (by decide +kernel) ?_
      obtain ⟨hi46, hf⟩ := grd_e hf
      refine v_iald C (ns_kd_lt hk_a1 (by decide)) hk_a1 hi46 122 rfl (by decide +kernel) ?_
      obtain ⟨σ47, hσ47, hf⟩ := bnd_e hf
      refine v_putI C 9 5 hσ47 rfl nin_9 ny_9 nty_9 nnm_9 (ns_kd_lt hk_a0 (by decide)) hk_a0 (by decide) (by decide) rfl rfl rfl rfl 66 tw_980 rfl 125 rfl (by decide +kernel) ?_
      refine v_aload_n C 0 0 rfl 126 rfl (by decide +kernel) ?_
      refine v_aload_n C 1 1 rfl 127 rfl (by decide +kernel) ?_
      refine v_bipush C (99) (99) (by decide) 129 rfl (by decide +kernel) ?_
      obtain ⟨hi48, hf⟩ := grd_e hf
      refine v_iald C (ns_kd_lt hk_a1 (by decide)) hk_a1 hi48 130 rfl (by decide +kernel) ?_
      obtain ⟨σ49, hσ49, hf⟩ := bnd_e hf
      refine v_putI C 9 12 hσ49 rfl nin_9 ny_9 nty_9 nnm_9 (ns_kd_lt hk_a0 (by decide)) hk_a0 (by decide) (by decide) rfl rfl rfl rfl 119 tw_987 rfl 133 rfl (by decide +kernel) ?_
      refine v_aload_n C 0 0 rfl 134 rfl (by decide +kernel) ?_
      refine v_aload_n C 1 1 rfl 135 rfl (by decide +kernel) ?_
      refine v_bipush C (100) (100) (by decide) 137 rfl (by decide +kernel) ?_
      obtain ⟨hi50, hf⟩ := grd_e hf
      refine v_iald C (ns_kd_lt hk_a1 (by decide)) hk_a1 hi50 138 rfl (by decide +kernel) ?_
      obtain ⟨σ51, hσ51, hf⟩ := bnd_e hf
      refine v_putI C 9 13 hσ51 rfl nin_9 ny_9 nty_9 nnm_9 (ns_kd_lt hk_a0 (by decide)) hk_a0 (by decide) (by decide) rfl rfl rfl rfl 249 tw_988 rfl 141 rfl (by decide +kernel) ?_
      refine v_aload_n C 0 0 rfl 142 rfl (by decide +kernel) ?_
      refine v_aload_n C 1 1 rfl 143 rfl (by decide +kernel) ?_
      refine v_bipush C (101) (101) (by decide) 145 rfl (by decide +kernel) ?_
      obtain ⟨hi52, hf⟩ := grd_e hf
      refine v_iald C (ns_kd_lt hk_a1 (by decide)) hk_a1 hi52 146 rfl (by decide +kernel) ?_
      obtain ⟨σ53, hσ53, hf⟩ := bnd_e hf
      refine v_putI C 9 14 hσ53 rfl nin_9 ny_9 nty_9 nnm_9 (ns_kd_lt hk_a0 (by decide)) hk_a0 (by decide) (by decide) rfl rfl rfl rfl 63 tw_989 rfl 149 rfl (by decide +kernel) ?_
      obtain ⟨rfl, rfl⟩ := ret_e hf
      exact v_vret C hr (by decide +kernel)
    · have hf := ite2_f hf h43
      refine v_aload_n C 0 0 rfl 32 rfl (by decide +kernel) ?_
      obtain ⟨b54, hb54, hf⟩ := drf_e hf
      obtain ⟨hk_b54, hf⟩ := grd_e hf
      refine v_getR C 9 6 hb54 rfl nin_9 (ns_kd_lt hk_a0 (by decide)) hk_a0 (by decide) (by decide) rfl 23 tw_981 rfl 35 rfl (by decide +kernel) ?_
      refine v_iload_n C 2 2 rfl 36 rfl (by decide +kernel) ?_
      refine v_aload_n C 1 1 rfl 37 rfl (by decide +kernel) ?_
      refine v_bipush C (61) (61) (by decide) 39 rfl (by decide +kernel) ?_
      refine v_iload_n C 2 2 rfl 40 rfl (by decide +kernel) ?_
      refine v_iadd C 41 rfl (by decide +kernel) ?_
      obtain ⟨hi55, hf⟩ := grd_e hf
      refine v_iald C (ns_kd_lt hk_a1 (by decide)) hk_a1 hi55 42 rfl (by decide +kernel) ?_
      obtain ⟨hi56, hf⟩ := grd_e hf
      obtain ⟨σ57, hσ57, hf⟩ := bnd_e hf
      refine v_iast C hσ57 (ns_kd_lt hk_b54 (by decide)) hk_b54 hi56 43 rfl (by decide +kernel) ?_
      refine v_aload_n C 0 0 rfl 44 rfl (by decide +kernel) ?_
      obtain ⟨b58, hb58, hf⟩ := drf_e hf
      obtain ⟨hk_b58, hf⟩ := grd_e hf
      refine v_getR C 9 7 hb58 rfl nin_9 (ns_kd_lt hk_a0 (by decide)) hk_a0 (by decide) (by decide) rfl 26 tw_982 rfl 47 rfl (by decide +kernel) ?_
      refine v_iload_n C 2 2 rfl 48 rfl (by decide +kernel) ?_
      refine v_aload_n C 1 1 rfl 49 rfl (by decide +kernel) ?_
      refine v_bipush C (67) (67) (by decide) 51 rfl (by decide +kernel) ?_
      refine v_iload_n C 2 2 rfl 52 rfl (by decide +kernel) ?_
      refine v_iadd C 53 rfl (by decide +kernel) ?_
      obtain ⟨hi59, hf⟩ := grd_e hf
      refine v_iald C (ns_kd_lt hk_a1 (by decide)) hk_a1 hi59 54 rfl (by decide +kernel) ?_
      obtain ⟨hi60, hf⟩ := grd_e hf
      obtain ⟨σ61, hσ61, hf⟩ := bnd_e hf
      refine v_iast C hσ61 (ns_kd_lt hk_b58 (by decide)) hk_b58 hi60 55 rfl (by decide +kernel) ?_
      refine v_aload_n C 0 0 rfl 56 rfl (by decide +kernel) ?_
      obtain ⟨b62, hb62, hf⟩ := drf_e hf
      obtain ⟨hk_b62, hf⟩ := grd_e hf
      refine v_getR C 9 8 hb62 rfl nin_9 (ns_kd_lt hk_a0 (by decide)) hk_a0 (by decide) (by decide) rfl 29 tw_983 rfl 59 rfl (by decide +kernel) ?_
      refine v_iload_n C 2 2 rfl 60 rfl (by decide +kernel) ?_
      refine v_aload_n C 1 1 rfl 61 rfl (by decide +kernel) ?_
      refine v_bipush C (73) (73) (by decide) 63 rfl (by decide +kernel) ?_
      refine v_iload_n C 2 2 rfl 64 rfl (by decide +kernel) ?_
      refine v_iadd C 65 rfl (by decide +kernel) ?_
      obtain ⟨hi63, hf⟩ := grd_e hf
      refine v_iald C (ns_kd_lt hk_a1 (by decide)) hk_a1 hi63 66 rfl (by decide +kernel) ?_
      obtain ⟨hi64, hf⟩ := grd_e hf
      obtain ⟨σ65, hσ65, hf⟩ := bnd_e hf
      refine v_iast C hσ65 (ns_kd_lt hk_b62 (by decide)) hk_b62 hi64 67 rfl (by decide +kernel) ?_
      refine v_aload_n C 0 0 rfl 68 rfl (by decide +kernel) ?_
      obtain ⟨b66, hb66, hf⟩ := drf_e hf
      obtain ⟨hk_b66, hf⟩ := grd_e hf
      refine v_getR C 9 9 hb66 rfl nin_9 (ns_kd_lt hk_a0 (by decide)) hk_a0 (by decide) (by decide) rfl 32 tw_984 rfl 71 rfl (by decide +kernel) ?_
      refine v_iload_n C 2 2 rfl 72 rfl (by decide +kernel) ?_
      refine v_aload_n C 1 1 rfl 73 rfl (by decide +kernel) ?_
      refine v_bipush C (79) (79) (by decide) 75 rfl (by decide +kernel) ?_
      refine v_iload_n C 2 2 rfl 76 rfl (by decide +kernel) ?_
      refine v_iadd C 77 rfl (by decide +kernel) ?_
      obtain ⟨hi67, hf⟩ := grd_e hf
      refine v_iald C (ns_kd_lt hk_a1 (by decide)) hk_a1 hi67 78 rfl (by decide +kernel) ?_
      obtain ⟨hi68, hf⟩ := grd_e hf
      obtain ⟨σ69, hσ69, hf⟩ := bnd_e hf
      refine v_iast C hσ69 (ns_kd_lt hk_b66 (by decide)) hk_b66 hi68 79 rfl (by decide +kernel) ?_
      refine v_aload_n C 0 0 rfl 80 rfl (by decide +kernel) ?_
      obtain ⟨b70, hb70, hf⟩ := drf_e hf
      obtain ⟨hk_b70, hf⟩ := grd_e hf
      refine v_getR C 9 10 hb70 rfl nin_9 (ns_kd_lt hk_a0 (by decide)) hk_a0 (by decide) (by decide) rfl 35 tw_985 rfl 83 rfl (by decide +kernel) ?_
      refine v_iload_n C 2 2 rfl 84 rfl (by decide +kernel) ?_
      refine v_aload_n C 1 1 rfl 85 rfl (by decide +kernel) ?_
      refine v_bipush C (85) (85) (by decide) 87 rfl (by decide +kernel) ?_
      refine v_iload_n C 2 2 rfl 88 rfl (by decide +kernel) ?_
      refine v_iadd C 89 rfl (by decide +kernel) ?_
      obtain ⟨hi71, hf⟩ := grd_e hf
      refine v_iald C (ns_kd_lt hk_a1 (by decide)) hk_a1 hi71 90 rfl (by decide +kernel) ?_
      obtain ⟨hi72, hf⟩ := grd_e hf
      obtain ⟨σ73, hσ73, hf⟩ := bnd_e hf
      refine v_iast C hσ73 (ns_kd_lt hk_b70 (by decide)) hk_b70 hi72 91 rfl (by decide +kernel) ?_
      refine v_aload_n C 0 0 rfl 92 rfl (by decide +kernel) ?_
      obtain ⟨b74, hb74, hf⟩ := drf_e hf
      obtain ⟨hk_b74, hf⟩ := grd_e hf
      refine v_getR C 9 11 hb74 rfl nin_9 (ns_kd_lt hk_a0 (by decide)) hk_a0 (by decide) (by decide) rfl 38 tw_986 rfl 95 rfl (by decide +kernel) ?_
      refine v_iload_n C 2 2 rfl 96 rfl (by decide +kernel) ?_
      refine v_aload_n C 1 1 rfl 97 rfl (by decide +kernel) ?_
      refine v_bipush C (91) (91) (by decide) 99 rfl (by decide +kernel) ?_
      refine v_iload_n C 2 2 rfl 100 rfl (by decide +kernel) ?_
      refine v_iadd C 101 rfl (by decide +kernel) ?_
      obtain ⟨hi75, hf⟩ := grd_e hf
      refine v_iald C (ns_kd_lt hk_a1 (by decide)) hk_a1 hi75 102 rfl (by decide +kernel) ?_
      obtain ⟨hi76, hf⟩ := grd_e hf
      obtain ⟨σ77, hσ77, hf⟩ := bnd_e hf
      refine v_iast C hσ77 (ns_kd_lt hk_b74 (by decide)) hk_b74 hi76 103 rfl (by decide +kernel) ?_
      obtain ⟨z78, hz78, hf⟩ := bnd_e hf
      refine v_iinc C 2 (1) 2 z78 rfl (by rw [hz78]; rfl) [(2, .int z78), (0, .ref (G.1 + a0)), (1, .ref (G.1 + a1))] (by decide) rfl 106 rfl (by decide +kernel) ?_
      refine v_goto C 25 (by decide +kernel) ?_
      refine v_sub [1, 2, 0] rfl ?_
      exact ih σ77 a0 a1 z78 hk_a0 hk_a1 hf
theorem t_M_again_2 (G : ns_G) (l : Launch) {p : Program} {e : Env} {s : State} {m : MethodId} {args : Array Value} {below : List Frame} {meth : Method} {c : Code} (C : ns_Cx G p s m args meth c prog_11_method_81_code "NinthStepModel" 3) (hr : meth.sig.returnType = none) {r : Unit} {σ' : ns_St}  : ∀ (f : Nat) (σ : ns_St) (a0 : Nat) (a1 : Nat) (x2 : Int32) (hk_a0 : ns_kd a0 = 9) (hk_a1 : ns_kd a1 = 10), g_M_again_2 f σ a0 a1 x2 = some (r, σ') → VV G p l e { frames := 0, cells := 0, slots := 0, locals := 0 } s m args below meth c 3 0 0 (MQ below (ns_Qc G none ns_N σ') args s 0 0 (ns_A G)) ns_N σ 2 [(0, .ref (G.1 + a0)), (1, .ref (G.1 + a1)), (2, .int x2)] [] := by
  intro f
  induction f with
  | zero =>
    intro σ a0 a1 x2 hk_a0 hk_a1 hf
    cases hf
  | succ f ih =>
    intro σ a0 a1 x2 hk_a0 hk_a1 hf
    rw [g_M_again_2] at hf
    refine v_iload_n C 2 2 rfl 3 rfl (by decide +kernel) ?_
    refine v_bipush C (61) (61) (by decide) 5 rfl (by decide +kernel) ?_
    refine v_icmp_ge C 23 8 rfl (by decide +kernel) (fun h79 => ?_) (fun h79 => ?_)
    · have hf := ite2_t hf h79
      refine v_iconst C (0) (0) (by decide) 24 rfl (by decide +kernel) ?_
      refine v_istore_n C 2 [(2, .int (0 : Int32)), (0, .ref (G.1 + a0)), (1, .ref (G.1 + a1))] (by decide) rfl 25 rfl (by decide +kernel) ?_
      refine v_sub [1, 2, 0] rfl ?_
      exact t_M_again_25 G l C hr  ns_F σ a0 a1 (0 : Int32) hk_a0 hk_a1 hf
    · have hf := ite2_f hf h79
      refine v_aload_n C 0 0 rfl 9 rfl (by decide +kernel) ?_
      obtain ⟨b80, hb80, hf⟩ := drf_e hf
      obtain ⟨hk_b80, hf⟩ := grd_e hf
      refine v_getR C 9 4 hb80 rfl nin_9 (ns_kd_lt hk_a0 (by decide)) hk_a0 (by decide) (by decide) rfl 20 tw_979 rfl 12 rfl (by decide +kernel) ?_
      refine v_iload_n C 2 2 rfl 13 rfl (by decide +kernel) ?_
      refine v_aload_n C 1 1 rfl 14 rfl (by decide +kernel) ?_
      refine v_iload_n C 2 2 rfl 15 rfl (by decide +kernel) ?_
      obtain ⟨hi81, hf⟩ := grd_e hf
      refine v_iald C (ns_kd_lt hk_a1 (by decide)) hk_a1 hi81 16 rfl (by decide +kernel) ?_
      obtain ⟨hi82, hf⟩ := grd_e hf
      obtain ⟨σ83, hσ83, hf⟩ := bnd_e hf
      refine v_iast C hσ83 (ns_kd_lt hk_b80 (by decide)) hk_b80 hi82 17 rfl (by decide +kernel) ?_
      obtain ⟨z84, hz84, hf⟩ := bnd_e hf
      refine v_iinc C 2 (1) 2 z84 rfl (by rw [hz84]; rfl) [(2, .int z84), (0, .ref (G.1 + a0)), (1, .ref (G.1 + a1))] (by decide) rfl 20 rfl (by decide +kernel) ?_
      refine v_goto C 2 (by decide +kernel) ?_
      refine v_sub [1, 2, 0] rfl ?_
      exact ih σ83 a0 a1 z84 hk_a0 hk_a1 hf
theorem c_M_again (G : ns_G) (l : Launch) (σ : ns_St) (a0 : Nat) (a1 : Nat) {r : Unit} {σ' : ns_St} (hf : g_M_again σ a0 a1 = some (r, σ')) : ns_ok G l ⟨"NinthStepModel", "again", "([I)V"⟩ prog_11_method_81_code 3 none 0 0 0 0 [.ref (G.1 + a0), .ref (G.1 + a1)] ns_N σ none ns_N σ' := by
  refine v_open (by decide) (Nat.le_of_ble_eq_true rfl) rfl ?_
  intro p e s m below meth c C hr _
  have C : ns_Cx G p s m _ meth c prog_11_method_81_code "NinthStepModel" 3 := C
  unfold g_M_again at hf
  obtain ⟨hk_a0, hf⟩ := grd_e hf
  obtain ⟨hk_a1, hf⟩ := grd_e hf
  refine v_iconst C (0) (0) (by decide) 1 rfl (by decide +kernel) ?_
  refine v_istore_n C 2 [(2, .int (0 : Int32)), (0, .ref (G.1 + a0)), (1, .ref (G.1 + a1))] (by decide) rfl 2 rfl (by decide +kernel) ?_
  refine v_sub [1, 2, 0] rfl ?_
  exact t_M_again_2 G l C hr  ns_F σ a0 a1 (0 : Int32) hk_a0 hk_a1 hf
theorem hd_M_again : (⟨"NinthStepModel", "again", "([I)V"⟩ : MethodName).cls = "NinthStepModel" ∧ (⟨"NinthStepModel", "again", "([I)V"⟩ : MethodName).cls ≠ "java/lang/invoke/MethodHandle" ∧ (⟨"NinthStepModel", "again", "([I)V"⟩ : MethodName).cls ≠ "java/lang/invoke/VarHandle" ∧ (parseMethodDescriptor (⟨"NinthStepModel", "again", "([I)V"⟩ : MethodName).desc).map (fun d => d.parameters.length) = some 1 := by decide +kernel
def g_M_pass_55 (kh17 : ns_St → Nat → Int32 → Int32 → Option (Int32 × ns_St)) (σ : ns_St) (a0 : Nat) (x1 : Int32) (x2 : Int32) : Option (Int32 × ns_St) := ite2 (x2 = 0) (kh17 σ a0 x1 (0 : Int32)) (ite2 ((σ.1 a0 19) = (3 : Int32)) (kh17 σ a0 x1 (1 : Int32)) (kh17 σ a0 x1 (0 : Int32)))
def g_M_pass_37 (kh17 : ns_St → Nat → Int32 → Int32 → Option (Int32 × ns_St)) (σ : ns_St) (a0 : Nat) (x1 : Int32) (x2 : Int32) : Option (Int32 × ns_St) := ite2 (x2 = 0) (g_M_pass_55 kh17 σ a0 x1 x2) (ite2 ((σ.1 a0 19) = 0) (bnd (ns_pI σ a0 15 (0 : Int32)) fun σ27 => some (x1, σ27)) (g_M_pass_55 kh17 σ a0 x1 x2))
def g_M_pass_17  : Nat → ns_St → Nat → Int32 → Int32 → Option (Int32 × ns_St)
  | 0, _, _, _, _ => none
  | f + 1, σ, a0, x1, x2 => ite2 (x2 = 0) (drf (σ.2.2 a0 24) fun b29 => grd (ns_kd b29 = 10) <| cl2 (g_M_again σ a0 b29) fun r31 σ30 => bnd (ns_pI σ30 a0 15 (0 : Int32)) fun σ32 => cl2 (g_M_no σ32 a0 (-2 : Int32)) fun r34 σ33 => some (((-20 : Int32) - (σ33.1 a0 18)), σ33)) (cl2 (g_M_next σ a0) fun r36 σ35 => cl2 (g_M_statement σ35 a0) fun r38 σ37 => ite2 (r38 = 0) (g_M_pass_37 (g_M_pass_17 f) σ37 a0 x1 r38) (bnd (x1 + 1) fun z40 => g_M_pass_37 (g_M_pass_17 f) σ37 a0 z40 r38))
def g_M_pass (σ : ns_St) (a0 : Nat) : Option (Int32 × ns_St) := grd (ns_kd a0 = 9) <| drf (σ.2.2 a0 24) fun b41 => grd (ns_kd b41 = 10) <| cl2 (g_M_keep σ a0 b41) fun r43 σ42 => bnd (ns_pI σ42 a0 17 (0 : Int32)) fun σ44 => g_M_pass_17 ns_F σ44 a0 (0 : Int32) (1 : Int32)
theorem t_M_pass_55 (G : ns_G) (l : Launch) {p : Program} {e : Env} {s : State} {m : MethodId} {args : Array Value} {below : List Frame} {meth : Method} {c : Code} (C : ns_Cx G p s m args meth c prog_11_method_36_code "NinthStepModel" 3) (hr : meth.sig.returnType = (some .int)) {r : Int32} {σ' : ns_St} {kh17 : ns_St → Nat → Int32 → Int32 → Option (Int32 × ns_St)} (hkh17 : ∀ (σ : ns_St) (a0 : Nat) (x1 : Int32) (x2 : Int32), ns_kd a0 = 9 → kh17 σ a0 x1 x2 = some (r, σ') → VV G p l e { frames := 6, cells := 0, slots := 0, locals := 131 } s m args below meth c 3 0 0 (MQ below (ns_Qc G (some (.int r)) ns_N σ') args s 0 0 (ns_A G)) ns_N σ 17 [(0, .ref (G.1 + a0)), (1, .int x1), (2, .int x2)] []) (σ : ns_St) (a0 : Nat) (x1 : Int32) (x2 : Int32) (hk_a0 : ns_kd a0 = 9) (hf : g_M_pass_55 kh17 σ a0 x1 x2 = some (r, σ')) : VV G p l e { frames := 6, cells := 0, slots := 0, locals := 131 } s m args below meth c 3 0 0 (MQ below (ns_Qc G (some (.int r)) ns_N σ') args s 0 0 (ns_A G)) ns_N σ 55 [(0, .ref (G.1 + a0)), (1, .int x1), (2, .int x2)] [] := by
  unfold g_M_pass_55 at hf
  refine v_iload_n C 2 2 rfl 56 rfl (by decide +kernel) ?_
  refine v_if_eq C 71 59 rfl (by decide +kernel) (fun h23 => ?_) (fun h23 => ?_)
  · have hf := ite2_t hf h23
    refine v_iconst C (0) (0) (by decide) 72 rfl (by decide +kernel) ?_
    refine v_istore_n C 2 [(2, .int (0 : Int32)), (0, .ref (G.1 + a0)), (1, .int x1)] (by decide) rfl 73 rfl (by decide +kernel) ?_
    refine v_goto C 17 (by decide +kernel) ?_
    refine v_sub [1, 2, 0] rfl ?_
    exact hkh17 σ a0 x1 (0 : Int32) hk_a0 hf
  · have hf := ite2_f hf h23
    refine v_aload_n C 0 0 rfl 60 rfl (by decide +kernel) ?_
    refine v_getI C 9 19 rfl nin_9 (ns_kd_lt hk_a0 (by decide)) hk_a0 (by decide) (by decide) rfl 131 tw_994 rfl 63 rfl (by decide +kernel) ?_
    refine v_iconst C (3) (3) (by decide) 64 rfl (by decide +kernel) ?_
    refine v_icmp_ne C 71 67 rfl (by decide +kernel) (fun h24 => ?_) (fun h24 => ?_)
    · have hf := ite2_f hf h24
      refine v_iconst C (0) (0) (by decide) 72 rfl (by decide +kernel) ?_
      refine v_istore_n C 2 [(2, .int (0 : Int32)), (0, .ref (G.1 + a0)), (1, .int x1)] (by decide) rfl 73 rfl (by decide +kernel) ?_
      refine v_goto C 17 (by decide +kernel) ?_
      refine v_sub [1, 2, 0] rfl ?_
      exact hkh17 σ a0 x1 (0 : Int32) hk_a0 hf
    · have hf := ite2_t hf h24
      refine v_iconst C (1) (1) (by decide) 68 rfl (by decide +kernel) ?_
      refine v_goto C 72 (by decide +kernel) ?_
      refine v_istore_n C 2 [(2, .int (1 : Int32)), (0, .ref (G.1 + a0)), (1, .int x1)] (by decide) rfl 73 rfl (by decide +kernel) ?_
      refine v_goto C 17 (by decide +kernel) ?_
      refine v_sub [1, 2, 0] rfl ?_
      exact hkh17 σ a0 x1 (1 : Int32) hk_a0 hf
theorem t_M_pass_37 (G : ns_G) (l : Launch) {p : Program} {e : Env} {s : State} {m : MethodId} {args : Array Value} {below : List Frame} {meth : Method} {c : Code} (C : ns_Cx G p s m args meth c prog_11_method_36_code "NinthStepModel" 3) (hr : meth.sig.returnType = (some .int)) {r : Int32} {σ' : ns_St} {kh17 : ns_St → Nat → Int32 → Int32 → Option (Int32 × ns_St)} (hkh17 : ∀ (σ : ns_St) (a0 : Nat) (x1 : Int32) (x2 : Int32), ns_kd a0 = 9 → kh17 σ a0 x1 x2 = some (r, σ') → VV G p l e { frames := 6, cells := 0, slots := 0, locals := 131 } s m args below meth c 3 0 0 (MQ below (ns_Qc G (some (.int r)) ns_N σ') args s 0 0 (ns_A G)) ns_N σ 17 [(0, .ref (G.1 + a0)), (1, .int x1), (2, .int x2)] []) (σ : ns_St) (a0 : Nat) (x1 : Int32) (x2 : Int32) (hk_a0 : ns_kd a0 = 9) (hf : g_M_pass_37 kh17 σ a0 x1 x2 = some (r, σ')) : VV G p l e { frames := 6, cells := 0, slots := 0, locals := 131 } s m args below meth c 3 0 0 (MQ below (ns_Qc G (some (.int r)) ns_N σ') args s 0 0 (ns_A G)) ns_N σ 37 [(0, .ref (G.1 + a0)), (1, .int x1), (2, .int x2)] [] := by
  unfold g_M_pass_37 at hf
  refine v_iload_n C 2 2 rfl 38 rfl (by decide +kernel) ?_
  refine v_if_eq C 55 41 rfl (by decide +kernel) (fun h25 => ?_) (fun h25 => ?_)
  · have hf := ite2_t hf h25
    exact t_M_pass_55 G l C hr hkh17 σ a0 x1 x2 hk_a0 hf
  · have hf := ite2_f hf h25
    refine v_aload_n C 0 0 rfl 42 rfl (by decide +kernel) ?_
    refine v_getI C 9 19 rfl nin_9 (ns_kd_lt hk_a0 (by decide)) hk_a0 (by decide) (by decide) rfl 131 tw_994 rfl 45 rfl (by decide +kernel) ?_
    refine v_if_ne C 55 48 rfl (by decide +kernel) (fun h26 => ?_) (fun h26 => ?_)
    · have hf := ite2_f hf h26
      exact t_M_pass_55 G l C hr hkh17 σ a0 x1 x2 hk_a0 hf
    · have hf := ite2_t hf h26
      refine v_aload_n C 0 0 rfl 49 rfl (by decide +kernel) ?_
      refine v_iconst C (0) (0) (by decide) 50 rfl (by decide +kernel) ?_
      obtain ⟨σ27, hσ27, hf⟩ := bnd_e hf
      refine v_putI C 9 15 hσ27 rfl nin_9 ny_9 nty_9 nnm_9 (ns_kd_lt hk_a0 (by decide)) hk_a0 (by decide) (by decide) rfl rfl rfl rfl 122 tw_990 rfl 53 rfl (by decide +kernel) ?_
      refine v_iload_n C 1 1 rfl 54 rfl (by decide +kernel) ?_
      obtain ⟨rfl, rfl⟩ := ret_e hf
      exact v_iret C hr (by decide +kernel)
theorem t_M_pass_17 (G : ns_G) (l : Launch) {p : Program} {e : Env} {s : State} {m : MethodId} {args : Array Value} {below : List Frame} {meth : Method} {c : Code} (C : ns_Cx G p s m args meth c prog_11_method_36_code "NinthStepModel" 3) (hr : meth.sig.returnType = (some .int)) {r : Int32} {σ' : ns_St}  : ∀ (f : Nat) (σ : ns_St) (a0 : Nat) (x1 : Int32) (x2 : Int32) (hk_a0 : ns_kd a0 = 9), g_M_pass_17 f σ a0 x1 x2 = some (r, σ') → VV G p l e { frames := 6, cells := 0, slots := 0, locals := 131 } s m args below meth c 3 0 0 (MQ below (ns_Qc G (some (.int r)) ns_N σ') args s 0 0 (ns_A G)) ns_N σ 17 [(0, .ref (G.1 + a0)), (1, .int x1), (2, .int x2)] [] := by
  intro f
  induction f with
  | zero =>
    intro σ a0 x1 x2 hk_a0 hf
    cases hf
  | succ f ih =>
    intro σ a0 x1 x2 hk_a0 hf
    rw [g_M_pass_17] at hf
    refine v_iload_n C 2 2 rfl 18 rfl (by decide +kernel) ?_
    refine v_if_eq C 76 21 rfl (by decide +kernel) (fun h28 => ?_) (fun h28 => ?_)
    · have hf := ite2_t hf h28
      refine v_aload_n C 0 0 rfl 77 rfl (by decide +kernel) ?_
      refine v_aload_n C 0 0 rfl 78 rfl (by decide +kernel) ?_
      obtain ⟨b29, hb29, hf⟩ := drf_e hf
      obtain ⟨hk_b29, hf⟩ := grd_e hf
      refine v_getR C 9 24 hb29 rfl nin_9 (ns_kd_lt hk_a0 (by decide)) hk_a0 (by decide) (by decide) rfl 50 tw_999 rfl 81 rfl (by decide +kernel) ?_
      obtain ⟨r31, σ30, hcr31, hf⟩ := cl2_e hf
      refine v_cV C 9 rfl (ns_kd_lt hk_a0 (by decide)) hk_a0 (by decide) [.ref (G.1 + b29)] [] (c_M_again G l σ a0 b29 hcr31) 182 1 tw_1226 tw_1223 tw_1225 ts_90 tw_10 hd_M_again rfl ⟨(Nat.le_of_ble_eq_true rfl), (Nat.le_of_ble_eq_true rfl)⟩ ⟨(Nat.le_of_ble_eq_true rfl), (Nat.le_of_ble_eq_true rfl)⟩ (Nat.le_of_ble_eq_true rfl) rfl 84 rfl (by decide +kernel) [] rfl ?_
      refine v_aload_n C 0 0 rfl 85 rfl (by decide +kernel) ?_
      refine v_iconst C (0) (0) (by decide) 86 rfl (by decide +kernel) ?_
      obtain ⟨σ32, hσ32, hf⟩ := bnd_e hf
      refine v_putI C 9 15 hσ32 rfl nin_9 ny_9 nty_9 nnm_9 (ns_kd_lt hk_a0 (by decide)) hk_a0 (by decide) (by decide) rfl rfl rfl rfl 122 tw_990 rfl 89 rfl (by decide +kernel) ?_
      refine v_aload_n C 0 0 rfl 90 rfl (by decide +kernel) ?_
      refine v_bipush C (-2) (-2) (by decide) 92 rfl (by decide +kernel) ?_
      obtain ⟨r34, σ33, hcr34, hf⟩ := cl2_e hf
      refine v_cV C 9 rfl (ns_kd_lt hk_a0 (by decide)) hk_a0 (by decide) [.int (-2 : Int32)] [] (c_M_no G l σ32 a0 (-2 : Int32) hcr34) 73 1 tw_1079 tw_1076 tw_1078 ts_73 tw_10 hd_M_no rfl ⟨(Nat.le_of_ble_eq_true rfl), (Nat.le_of_ble_eq_true rfl)⟩ ⟨(Nat.le_of_ble_eq_true rfl), (Nat.le_of_ble_eq_true rfl)⟩ (Nat.le_of_ble_eq_true rfl) rfl 95 rfl (by decide +kernel) [.int r34] rfl ?_
      refine v_pop C rfl 96 rfl (by decide +kernel) ?_
      refine v_bipush C (-20) (-20) (by decide) 98 rfl (by decide +kernel) ?_
      refine v_aload_n C 0 0 rfl 99 rfl (by decide +kernel) ?_
      refine v_getI C 9 18 rfl nin_9 (ns_kd_lt hk_a0 (by decide)) hk_a0 (by decide) (by decide) rfl 128 tw_993 rfl 102 rfl (by decide +kernel) ?_
      refine v_isub C 103 rfl (by decide +kernel) ?_
      obtain ⟨rfl, rfl⟩ := ret_e hf
      exact v_iret C hr (by decide +kernel)
    · have hf := ite2_f hf h28
      refine v_aload_n C 0 0 rfl 22 rfl (by decide +kernel) ?_
      obtain ⟨r36, σ35, hcr36, hf⟩ := cl2_e hf
      refine v_cV C 9 rfl (ns_kd_lt hk_a0 (by decide)) hk_a0 (by decide) [] [] (c_M_next G l σ a0 hcr36) 152 0 tw_1194 tw_1191 tw_1193 ts_86 tw_10 hd_M_next rfl ⟨(Nat.le_of_ble_eq_true rfl), (Nat.le_of_ble_eq_true rfl)⟩ ⟨(Nat.le_of_ble_eq_true rfl), (Nat.le_of_ble_eq_true rfl)⟩ (Nat.le_of_ble_eq_true rfl) rfl 25 rfl (by decide +kernel) [] rfl ?_
      refine v_aload_n C 0 0 rfl 26 rfl (by decide +kernel) ?_
      obtain ⟨r38, σ37, hcr38, hf⟩ := cl2_e hf
      refine v_cV C 9 rfl (ns_kd_lt hk_a0 (by decide)) hk_a0 (by decide) [] [] (c_M_statement G l σ35 a0 hcr38) 178 0 tw_1204 tw_1201 tw_1203 ts_87 tw_10 hd_M_statement rfl ⟨(Nat.le_of_ble_eq_true rfl), (Nat.le_of_ble_eq_true rfl)⟩ ⟨(Nat.le_of_ble_eq_true rfl), (Nat.le_of_ble_eq_true rfl)⟩ (Nat.le_of_ble_eq_true rfl) rfl 29 rfl (by decide +kernel) [.int r38] rfl ?_
      refine v_istore_n C 2 [(2, .int r38), (0, .ref (G.1 + a0)), (1, .int x1)] (by decide) rfl 30 rfl (by decide +kernel) ?_
      refine v_iload_n C 2 0 rfl 31 rfl (by decide +kernel) ?_
      refine v_if_eq C 37 34 rfl (by decide +kernel) (fun h39 => ?_) (fun h39 => ?_)
      · have hf := ite2_t hf h39
        refine v_sub [1, 2, 0] rfl ?_
        exact t_M_pass_37 G l C hr ih σ37 a0 x1 r38 hk_a0 hf
      · have hf := ite2_f hf h39
        obtain ⟨z40, hz40, hf⟩ := bnd_e hf
        refine v_iinc C 1 (1) 2 z40 rfl (by rw [hz40]; rfl) [(1, .int z40), (2, .int r38), (0, .ref (G.1 + a0))] (by decide) rfl 37 rfl (by decide +kernel) ?_
        refine v_sub [2, 0, 1] rfl ?_
        exact t_M_pass_37 G l C hr ih σ37 a0 z40 r38 hk_a0 hf
theorem c_M_pass (G : ns_G) (l : Launch) (σ : ns_St) (a0 : Nat) {r : Int32} {σ' : ns_St} (hf : g_M_pass σ a0 = some (r, σ')) : ns_ok G l ⟨"NinthStepModel", "pass", "()I"⟩ prog_11_method_36_code 3 (some .int) 6 131 0 0 [.ref (G.1 + a0)] ns_N σ (some (.int r)) ns_N σ' := by
  refine v_open (by decide) (Nat.le_of_ble_eq_true rfl) rfl ?_
  intro p e s m below meth c C hr _
  have C : ns_Cx G p s m _ meth c prog_11_method_36_code "NinthStepModel" 3 := C
  unfold g_M_pass at hf
  obtain ⟨hk_a0, hf⟩ := grd_e hf
  refine v_aload_n C 0 0 rfl 1 rfl (by decide +kernel) ?_
  refine v_aload_n C 0 0 rfl 2 rfl (by decide +kernel) ?_
  obtain ⟨b41, hb41, hf⟩ := drf_e hf
  obtain ⟨hk_b41, hf⟩ := grd_e hf
  refine v_getR C 9 24 hb41 rfl nin_9 (ns_kd_lt hk_a0 (by decide)) hk_a0 (by decide) (by decide) rfl 50 tw_999 rfl 5 rfl (by decide +kernel) ?_
  obtain ⟨r43, σ42, hcr43, hf⟩ := cl2_e hf
  refine v_cV C 9 rfl (ns_kd_lt hk_a0 (by decide)) hk_a0 (by decide) [.ref (G.1 + b41)] [] (c_M_keep G l σ a0 b41 hcr43) 174 1 tw_1190 tw_1187 tw_1189 ts_85 tw_10 hd_M_keep rfl ⟨(Nat.le_of_ble_eq_true rfl), (Nat.le_of_ble_eq_true rfl)⟩ ⟨(Nat.le_of_ble_eq_true rfl), (Nat.le_of_ble_eq_true rfl)⟩ (Nat.le_of_ble_eq_true rfl) rfl 8 rfl (by decide +kernel) [] rfl ?_
  refine v_aload_n C 0 0 rfl 9 rfl (by decide +kernel) ?_
  refine v_iconst C (0) (0) (by decide) 10 rfl (by decide +kernel) ?_
  obtain ⟨σ44, hσ44, hf⟩ := bnd_e hf
  refine v_putI C 9 17 hσ44 rfl nin_9 ny_9 nty_9 nnm_9 (ns_kd_lt hk_a0 (by decide)) hk_a0 (by decide) (by decide) rfl rfl rfl rfl 125 tw_992 rfl 13 rfl (by decide +kernel) ?_
  refine v_iconst C (0) (0) (by decide) 14 rfl (by decide +kernel) ?_
  refine v_istore_n C 1 [(1, .int (0 : Int32)), (0, .ref (G.1 + a0))] (by decide) rfl 15 rfl (by decide +kernel) ?_
  refine v_iconst C (1) (1) (by decide) 16 rfl (by decide +kernel) ?_
  refine v_istore_n C 2 [(2, .int (1 : Int32)), (1, .int (0 : Int32)), (0, .ref (G.1 + a0))] (by decide) rfl 17 rfl (by decide +kernel) ?_
  refine v_sub [2, 1, 0] rfl ?_
  exact t_M_pass_17 G l C hr  ns_F σ44 a0 (0 : Int32) (1 : Int32) hk_a0 hf
theorem hd_M_pass : (⟨"NinthStepModel", "pass", "()I"⟩ : MethodName).cls = "NinthStepModel" ∧ (⟨"NinthStepModel", "pass", "()I"⟩ : MethodName).cls ≠ "java/lang/invoke/MethodHandle" ∧ (⟨"NinthStepModel", "pass", "()I"⟩ : MethodName).cls ≠ "java/lang/invoke/VarHandle" ∧ (parseMethodDescriptor (⟨"NinthStepModel", "pass", "()I"⟩ : MethodName).desc).map (fun d => d.parameters.length) = some 0 := by decide +kernel
def g_M_muleOf (σ : ns_St) (a0 : Nat) (x1 : Int32) (x2 : Int32) : Option (Int32 × ns_St) := grd (ns_kd a0 = 9) <| cl2 (g_M_isMule σ a0 x1) fun r27 σ26 => ite2 (r27 = 0) (cl2 (g_M_no σ26 a0 (-2 : Int32)) fun r50 σ49 => some (r50, σ49)) (ite2 (x2 = 0) (drf (σ26.2.2 a0 6) fun b30 => grd (ns_kd b30 = 10) <| grd (ns_in x1 (ns_ln b30)) <| some ((σ26.1 b30 (ns_ix x1)), σ26)) (ite2 (x2 = 1) (drf (σ26.2.2 a0 7) fun b33 => grd (ns_kd b33 = 10) <| grd (ns_in x1 (ns_ln b33)) <| some ((σ26.1 b33 (ns_ix x1)), σ26)) (ite2 (x2 = 2) (drf (σ26.2.2 a0 8) fun b36 => grd (ns_kd b36 = 10) <| grd (ns_in x1 (ns_ln b36)) <| some ((σ26.1 b36 (ns_ix x1)), σ26)) (ite2 (x2 = 3) (drf (σ26.2.2 a0 9) fun b39 => grd (ns_kd b39 = 10) <| grd (ns_in x1 (ns_ln b39)) <| some ((σ26.1 b39 (ns_ix x1)), σ26)) (ite2 (x2 = 4) (drf (σ26.2.2 a0 10) fun b42 => grd (ns_kd b42 = 10) <| grd (ns_in x1 (ns_ln b42)) <| some ((σ26.1 b42 (ns_ix x1)), σ26)) (ite2 (x2 = 5) (drf (σ26.2.2 a0 11) fun b45 => grd (ns_kd b45 = 10) <| grd (ns_in x1 (ns_ln b45)) <| some ((σ26.1 b45 (ns_ix x1)), σ26)) (cl2 (g_M_no σ26 a0 (-2 : Int32)) fun r48 σ47 => some (r48, σ47))))))))
theorem c_M_muleOf (G : ns_G) (l : Launch) (σ : ns_St) (a0 : Nat) (x1 : Int32) (x2 : Int32) {r : Int32} {σ' : ns_St} (hf : g_M_muleOf σ a0 x1 x2 = some (r, σ')) : ns_ok G l ⟨"NinthStepModel", "muleOf", "(II)I"⟩ prog_11_method_37_code 3 (some .int) 2 43 0 0 [.ref (G.1 + a0), .int x1, .int x2] ns_N σ (some (.int r)) ns_N σ' := by
  refine v_open (by decide) (Nat.le_of_ble_eq_true rfl) rfl ?_
  intro p e s m below meth c C hr _
  have C : ns_Cx G p s m _ meth c prog_11_method_37_code "NinthStepModel" 3 := C
  unfold g_M_muleOf at hf
  obtain ⟨hk_a0, hf⟩ := grd_e hf
  refine v_aload_n C 0 0 rfl 1 rfl (by decide +kernel) ?_
  refine v_iload_n C 1 1 rfl 2 rfl (by decide +kernel) ?_
  obtain ⟨r27, σ26, hcr27, hf⟩ := cl2_e hf
  refine v_cV C 9 rfl (ns_kd_lt hk_a0 (by decide)) hk_a0 (by decide) [.int x1] [] (c_M_isMule G l σ a0 x1 hcr27) 84 1 tw_1111 tw_1108 tw_1110 ts_76 tw_10 hd_M_isMule rfl ⟨(Nat.le_of_ble_eq_true rfl), (Nat.le_of_ble_eq_true rfl)⟩ ⟨(Nat.le_of_ble_eq_true rfl), (Nat.le_of_ble_eq_true rfl)⟩ (Nat.le_of_ble_eq_true rfl) rfl 5 rfl (by decide +kernel) [.int r27] rfl ?_
  refine v_if_ne C 15 8 rfl (by decide +kernel) (fun h28 => ?_) (fun h28 => ?_)
  · have hf := ite2_f hf h28
    refine v_iload_n C 2 2 rfl 16 rfl (by decide +kernel) ?_
    by_cases h29 : x2 = 0
    · have hf := ite2_t hf h29
      refine v_tswI C (82) (0) (5) #[(40), (47), (54), (61), (68), (75)] 40 56 (0) h29 (by decide) (by decide) (40) (by decide) (by decide) (by decide +kernel) ?_
      refine v_aload_n C 0 0 rfl 57 rfl (by decide +kernel) ?_
      obtain ⟨b30, hb30, hf⟩ := drf_e hf
      obtain ⟨hk_b30, hf⟩ := grd_e hf
      refine v_getR C 9 6 hb30 rfl nin_9 (ns_kd_lt hk_a0 (by decide)) hk_a0 (by decide) (by decide) rfl 23 tw_981 rfl 60 rfl (by decide +kernel) ?_
      refine v_iload_n C 1 1 rfl 61 rfl (by decide +kernel) ?_
      obtain ⟨hi31, hf⟩ := grd_e hf
      refine v_iald C (ns_kd_lt hk_b30 (by decide)) hk_b30 hi31 62 rfl (by decide +kernel) ?_
      obtain ⟨rfl, rfl⟩ := ret_e hf
      exact v_iret C hr (by decide +kernel)
    · have hf := ite2_f hf h29
      by_cases h32 : x2 = 1
      · have hf := ite2_t hf h32
        refine v_tswI C (82) (0) (5) #[(40), (47), (54), (61), (68), (75)] 40 63 (1) h32 (by decide) (by decide) (47) (by decide) (by decide) (by decide +kernel) ?_
        refine v_aload_n C 0 0 rfl 64 rfl (by decide +kernel) ?_
        obtain ⟨b33, hb33, hf⟩ := drf_e hf
        obtain ⟨hk_b33, hf⟩ := grd_e hf
        refine v_getR C 9 7 hb33 rfl nin_9 (ns_kd_lt hk_a0 (by decide)) hk_a0 (by decide) (by decide) rfl 26 tw_982 rfl 67 rfl (by decide +kernel) ?_
        refine v_iload_n C 1 1 rfl 68 rfl (by decide +kernel) ?_
        obtain ⟨hi34, hf⟩ := grd_e hf
        refine v_iald C (ns_kd_lt hk_b33 (by decide)) hk_b33 hi34 69 rfl (by decide +kernel) ?_
        obtain ⟨rfl, rfl⟩ := ret_e hf
        exact v_iret C hr (by decide +kernel)
      · have hf := ite2_f hf h32
        by_cases h35 : x2 = 2
        · have hf := ite2_t hf h35
          refine v_tswI C (82) (0) (5) #[(40), (47), (54), (61), (68), (75)] 40 70 (2) h35 (by decide) (by decide) (54) (by decide) (by decide) (by decide +kernel) ?_
          refine v_aload_n C 0 0 rfl 71 rfl (by decide +kernel) ?_
          obtain ⟨b36, hb36, hf⟩ := drf_e hf
          obtain ⟨hk_b36, hf⟩ := grd_e hf
          refine v_getR C 9 8 hb36 rfl nin_9 (ns_kd_lt hk_a0 (by decide)) hk_a0 (by decide) (by decide) rfl 29 tw_983 rfl 74 rfl (by decide +kernel) ?_
          refine v_iload_n C 1 1 rfl 75 rfl (by decide +kernel) ?_
          obtain ⟨hi37, hf⟩ := grd_e hf
          refine v_iald C (ns_kd_lt hk_b36 (by decide)) hk_b36 hi37 76 rfl (by decide +kernel) ?_
          obtain ⟨rfl, rfl⟩ := ret_e hf
          exact v_iret C hr (by decide +kernel)
        · have hf := ite2_f hf h35
          by_cases h38 : x2 = 3
          · have hf := ite2_t hf h38
            refine v_tswI C (82) (0) (5) #[(40), (47), (54), (61), (68), (75)] 40 77 (3) h38 (by decide) (by decide) (61) (by decide) (by decide) (by decide +kernel) ?_
            refine v_aload_n C 0 0 rfl 78 rfl (by decide +kernel) ?_
            obtain ⟨b39, hb39, hf⟩ := drf_e hf
            obtain ⟨hk_b39, hf⟩ := grd_e hf
            refine v_getR C 9 9 hb39 rfl nin_9 (ns_kd_lt hk_a0 (by decide)) hk_a0 (by decide) (by decide) rfl 32 tw_984 rfl 81 rfl (by decide +kernel) ?_
            refine v_iload_n C 1 1 rfl 82 rfl (by decide +kernel) ?_
            obtain ⟨hi40, hf⟩ := grd_e hf
            refine v_iald C (ns_kd_lt hk_b39 (by decide)) hk_b39 hi40 83 rfl (by decide +kernel) ?_
            obtain ⟨rfl, rfl⟩ := ret_e hf
            exact v_iret C hr (by decide +kernel)
          · have hf := ite2_f hf h38
            by_cases h41 : x2 = 4
            · have hf := ite2_t hf h41
              refine v_tswI C (82) (0) (5) #[(40), (47), (54), (61), (68), (75)] 40 84 (4) h41 (by decide) (by decide) (68) (by decide) (by decide) (by decide +kernel) ?_
              refine v_aload_n C 0 0 rfl 85 rfl (by decide +kernel) ?_
              obtain ⟨b42, hb42, hf⟩ := drf_e hf
              obtain ⟨hk_b42, hf⟩ := grd_e hf
              refine v_getR C 9 10 hb42 rfl nin_9 (ns_kd_lt hk_a0 (by decide)) hk_a0 (by decide) (by decide) rfl 35 tw_985 rfl 88 rfl (by decide +kernel) ?_
              refine v_iload_n C 1 1 rfl 89 rfl (by decide +kernel) ?_
              obtain ⟨hi43, hf⟩ := grd_e hf
              refine v_iald C (ns_kd_lt hk_b42 (by decide)) hk_b42 hi43 90 rfl (by decide +kernel) ?_
              obtain ⟨rfl, rfl⟩ := ret_e hf
              exact v_iret C hr (by decide +kernel)
            · have hf := ite2_f hf h41
              by_cases h44 : x2 = 5
              · have hf := ite2_t hf h44
                refine v_tswI C (82) (0) (5) #[(40), (47), (54), (61), (68), (75)] 40 91 (5) h44 (by decide) (by decide) (75) (by decide) (by decide) (by decide +kernel) ?_
                refine v_aload_n C 0 0 rfl 92 rfl (by decide +kernel) ?_
                obtain ⟨b45, hb45, hf⟩ := drf_e hf
                obtain ⟨hk_b45, hf⟩ := grd_e hf
                refine v_getR C 9 11 hb45 rfl nin_9 (ns_kd_lt hk_a0 (by decide)) hk_a0 (by decide) (by decide) rfl 38 tw_986 rfl 95 rfl (by decide +kernel) ?_
                refine v_iload_n C 1 1 rfl 96 rfl (by decide +kernel) ?_
                obtain ⟨hi46, hf⟩ := grd_e hf
                refine v_iald C (ns_kd_lt hk_b45 (by decide)) hk_b45 hi46 97 rfl (by decide +kernel) ?_
                obtain ⟨rfl, rfl⟩ := ret_e hf
                exact v_iret C hr (by decide +kernel)
              · have hf := ite2_f hf h44
                refine v_tswO C (82) (0) (5) #[(40), (47), (54), (61), (68), (75)] 40 98 (ns_out x2 (0) (5) (fun k h1 h2 => by
                  have h3 : k = 0 ∨ k = 1 ∨ k = 2 ∨ k = 3 ∨ k = 4 ∨ k = 5 := by omega
                  rcases h3 with rfl | rfl | rfl | rfl | rfl | rfl
                  · exact h29
                  · exact h32
                  · exact h35
                  · exact h38
                  · exact h41
                  · exact h44)) (by decide) (by decide +kernel) ?_
                refine v_aload_n C 0 0 rfl 99 rfl (by decide +kernel) ?_
                refine v_bipush C (-2) (-2) (by decide) 101 rfl (by decide +kernel) ?_
                obtain ⟨r48, σ47, hcr48, hf⟩ := cl2_e hf
                refine v_cV C 9 rfl (ns_kd_lt hk_a0 (by decide)) hk_a0 (by decide) [.int (-2 : Int32)] [] (c_M_no G l σ26 a0 (-2 : Int32) hcr48) 73 1 tw_1079 tw_1076 tw_1078 ts_73 tw_10 hd_M_no rfl ⟨(Nat.le_of_ble_eq_true rfl), (Nat.le_of_ble_eq_true rfl)⟩ ⟨(Nat.le_of_ble_eq_true rfl), (Nat.le_of_ble_eq_true rfl)⟩ (Nat.le_of_ble_eq_true rfl) rfl 104 rfl (by decide +kernel) [.int r48] rfl ?_
                obtain ⟨rfl, rfl⟩ := ret_e hf
                exact v_iret C hr (by decide +kernel)
  · have hf := ite2_t hf h28
    refine v_aload_n C 0 0 rfl 9 rfl (by decide +kernel) ?_
    refine v_bipush C (-2) (-2) (by decide) 11 rfl (by decide +kernel) ?_
    obtain ⟨r50, σ49, hcr50, hf⟩ := cl2_e hf
    refine v_cV C 9 rfl (ns_kd_lt hk_a0 (by decide)) hk_a0 (by decide) [.int (-2 : Int32)] [] (c_M_no G l σ26 a0 (-2 : Int32) hcr50) 73 1 tw_1079 tw_1076 tw_1078 ts_73 tw_10 hd_M_no rfl ⟨(Nat.le_of_ble_eq_true rfl), (Nat.le_of_ble_eq_true rfl)⟩ ⟨(Nat.le_of_ble_eq_true rfl), (Nat.le_of_ble_eq_true rfl)⟩ (Nat.le_of_ble_eq_true rfl) rfl 14 rfl (by decide +kernel) [.int r50] rfl ?_
    obtain ⟨rfl, rfl⟩ := ret_e hf
    exact v_iret C hr (by decide +kernel)
theorem hd_M_muleOf : (⟨"NinthStepModel", "muleOf", "(II)I"⟩ : MethodName).cls = "NinthStepModel" ∧ (⟨"NinthStepModel", "muleOf", "(II)I"⟩ : MethodName).cls ≠ "java/lang/invoke/MethodHandle" ∧ (⟨"NinthStepModel", "muleOf", "(II)I"⟩ : MethodName).cls ≠ "java/lang/invoke/VarHandle" ∧ (parseMethodDescriptor (⟨"NinthStepModel", "muleOf", "(II)I"⟩ : MethodName).desc).map (fun d => d.parameters.length) = some 2 := by decide +kernel
def g_M_placeOf (σ : ns_St) (a0 : Nat) (x1 : Int32) : Option (Int32 × ns_St) := grd (ns_kd a0 = 9) <| cl2 (g_M_isPlace σ a0 x1) fun r9 σ8 => ite2 (r9 = 0) (cl2 (g_M_no σ8 a0 (-2 : Int32)) fun r12 σ11 => some (r12, σ11)) (drf (σ8.2.2 a0 4) fun b13 => grd (ns_kd b13 = 10) <| grd (ns_in x1 (ns_ln b13)) <| some ((σ8.1 b13 (ns_ix x1)), σ8))
theorem c_M_placeOf (G : ns_G) (l : Launch) (σ : ns_St) (a0 : Nat) (x1 : Int32) {r : Int32} {σ' : ns_St} (hf : g_M_placeOf σ a0 x1 = some (r, σ')) : ns_ok G l ⟨"NinthStepModel", "placeOf", "(I)I"⟩ prog_11_method_38_code 2 (some .int) 2 43 0 0 [.ref (G.1 + a0), .int x1] ns_N σ (some (.int r)) ns_N σ' := by
  refine v_open (by decide) (Nat.le_of_ble_eq_true rfl) rfl ?_
  intro p e s m below meth c C hr _
  have C : ns_Cx G p s m _ meth c prog_11_method_38_code "NinthStepModel" 2 := C
  unfold g_M_placeOf at hf
  obtain ⟨hk_a0, hf⟩ := grd_e hf
  refine v_aload_n C 0 0 rfl 1 rfl (by decide +kernel) ?_
  refine v_iload_n C 1 1 rfl 2 rfl (by decide +kernel) ?_
  obtain ⟨r9, σ8, hcr9, hf⟩ := cl2_e hf
  refine v_cV C 9 rfl (ns_kd_lt hk_a0 (by decide)) hk_a0 (by decide) [.int x1] [] (c_M_isPlace G l σ a0 x1 hcr9) 109 1 tw_1150 tw_1147 tw_1149 ts_82 tw_10 hd_M_isPlace rfl ⟨(Nat.le_of_ble_eq_true rfl), (Nat.le_of_ble_eq_true rfl)⟩ ⟨(Nat.le_of_ble_eq_true rfl), (Nat.le_of_ble_eq_true rfl)⟩ (Nat.le_of_ble_eq_true rfl) rfl 5 rfl (by decide +kernel) [.int r9] rfl ?_
  refine v_if_eq C 17 8 rfl (by decide +kernel) (fun h10 => ?_) (fun h10 => ?_)
  · have hf := ite2_t hf h10
    refine v_aload_n C 0 0 rfl 18 rfl (by decide +kernel) ?_
    refine v_bipush C (-2) (-2) (by decide) 20 rfl (by decide +kernel) ?_
    obtain ⟨r12, σ11, hcr12, hf⟩ := cl2_e hf
    refine v_cV C 9 rfl (ns_kd_lt hk_a0 (by decide)) hk_a0 (by decide) [.int (-2 : Int32)] [] (c_M_no G l σ8 a0 (-2 : Int32) hcr12) 73 1 tw_1079 tw_1076 tw_1078 ts_73 tw_10 hd_M_no rfl ⟨(Nat.le_of_ble_eq_true rfl), (Nat.le_of_ble_eq_true rfl)⟩ ⟨(Nat.le_of_ble_eq_true rfl), (Nat.le_of_ble_eq_true rfl)⟩ (Nat.le_of_ble_eq_true rfl) rfl 23 rfl (by decide +kernel) [.int r12] rfl ?_
    obtain ⟨rfl, rfl⟩ := ret_e hf
    exact v_iret C hr (by decide +kernel)
  · have hf := ite2_f hf h10
    refine v_aload_n C 0 0 rfl 9 rfl (by decide +kernel) ?_
    obtain ⟨b13, hb13, hf⟩ := drf_e hf
    obtain ⟨hk_b13, hf⟩ := grd_e hf
    refine v_getR C 9 4 hb13 rfl nin_9 (ns_kd_lt hk_a0 (by decide)) hk_a0 (by decide) (by decide) rfl 20 tw_979 rfl 12 rfl (by decide +kernel) ?_
    refine v_iload_n C 1 1 rfl 13 rfl (by decide +kernel) ?_
    obtain ⟨hi14, hf⟩ := grd_e hf
    refine v_iald C (ns_kd_lt hk_b13 (by decide)) hk_b13 hi14 14 rfl (by decide +kernel) ?_
    refine v_goto C 23 (by decide +kernel) ?_
    obtain ⟨rfl, rfl⟩ := ret_e hf
    exact v_iret C hr (by decide +kernel)
theorem hd_M_placeOf : (⟨"NinthStepModel", "placeOf", "(I)I"⟩ : MethodName).cls = "NinthStepModel" ∧ (⟨"NinthStepModel", "placeOf", "(I)I"⟩ : MethodName).cls ≠ "java/lang/invoke/MethodHandle" ∧ (⟨"NinthStepModel", "placeOf", "(I)I"⟩ : MethodName).cls ≠ "java/lang/invoke/VarHandle" ∧ (parseMethodDescriptor (⟨"NinthStepModel", "placeOf", "(I)I"⟩ : MethodName).desc).map (fun d => d.parameters.length) = some 1 := by decide +kernel
def g_M_begins (σ : ns_St) (a0 : Nat) (x1 : Int32) : Option (Unit × ns_St) := grd (ns_kd a0 = 9) <| drf (σ.2.2 a0 6) fun b13 => grd (ns_kd b13 = 10) <| grd (ns_in x1 (ns_ln b13)) <| bnd (ns_pI σ a0 25 (σ.1 b13 (ns_ix x1))) fun σ15 => drf (σ15.2.2 a0 7) fun b16 => grd (ns_kd b16 = 10) <| grd (ns_in x1 (ns_ln b16)) <| bnd (ns_pI σ15 a0 26 (σ15.1 b16 (ns_ix x1))) fun σ18 => drf (σ18.2.2 a0 8) fun b19 => grd (ns_kd b19 = 10) <| grd (ns_in x1 (ns_ln b19)) <| bnd (ns_pI σ18 a0 27 (σ18.1 b19 (ns_ix x1))) fun σ21 => drf (σ21.2.2 a0 9) fun b22 => grd (ns_kd b22 = 10) <| grd (ns_in x1 (ns_ln b22)) <| bnd (ns_pI σ21 a0 28 (σ21.1 b22 (ns_ix x1))) fun σ24 => some ((), σ24)
theorem c_M_begins (G : ns_G) (l : Launch) (σ : ns_St) (a0 : Nat) (x1 : Int32) {r : Unit} {σ' : ns_St} (hf : g_M_begins σ a0 x1 = some (r, σ')) : ns_ok G l ⟨"NinthStepModel", "begins", "(I)V"⟩ prog_11_method_40_code 2 none 0 0 0 0 [.ref (G.1 + a0), .int x1] ns_N σ none ns_N σ' := by
  refine v_open (by decide) (Nat.le_of_ble_eq_true rfl) rfl ?_
  intro p e s m below meth c C hr _
  have C : ns_Cx G p s m _ meth c prog_11_method_40_code "NinthStepModel" 2 := C
  unfold g_M_begins at hf
  obtain ⟨hk_a0, hf⟩ := grd_e hf
  refine v_aload_n C 0 0 rfl 1 rfl (by decide +kernel) ?_
  refine v_aload_n C 0 0 rfl 2 rfl (by decide +kernel) ?_
  obtain ⟨b13, hb13, hf⟩ := drf_e hf
  obtain ⟨hk_b13, hf⟩ := grd_e hf
  refine v_getR C 9 6 hb13 rfl nin_9 (ns_kd_lt hk_a0 (by decide)) hk_a0 (by decide) (by decide) rfl 23 tw_981 rfl 5 rfl (by decide +kernel) ?_
  refine v_iload_n C 1 1 rfl 6 rfl (by decide +kernel) ?_
  obtain ⟨hi14, hf⟩ := grd_e hf
  refine v_iald C (ns_kd_lt hk_b13 (by decide)) hk_b13 hi14 7 rfl (by decide +kernel) ?_
  obtain ⟨σ15, hσ15, hf⟩ := bnd_e hf
  refine v_putI C 9 25 hσ15 rfl nin_9 ny_9 nty_9 nnm_9 (ns_kd_lt hk_a0 (by decide)) hk_a0 (by decide) (by decide) rfl rfl rfl rfl 185 tw_1000 rfl 10 rfl (by decide +kernel) ?_
  refine v_aload_n C 0 0 rfl 11 rfl (by decide +kernel) ?_
  refine v_aload_n C 0 0 rfl 12 rfl (by decide +kernel) ?_
  obtain ⟨b16, hb16, hf⟩ := drf_e hf
  obtain ⟨hk_b16, hf⟩ := grd_e hf
  refine v_getR C 9 7 hb16 rfl nin_9 (ns_kd_lt hk_a0 (by decide)) hk_a0 (by decide) (by decide) rfl 26 tw_982 rfl 15 rfl (by decide +kernel) ?_
  refine v_iload_n C 1 1 rfl 16 rfl (by decide +kernel) ?_
  obtain ⟨hi17, hf⟩ := grd_e hf
  refine v_iald C (ns_kd_lt hk_b16 (by decide)) hk_b16 hi17 17 rfl (by decide +kernel) ?_
  obtain ⟨σ18, hσ18, hf⟩ := bnd_e hf
  refine v_putI C 9 26 hσ18 rfl nin_9 ny_9 nty_9 nnm_9 (ns_kd_lt hk_a0 (by decide)) hk_a0 (by decide) (by decide) rfl rfl rfl rfl 188 tw_1001 rfl 20 rfl (by decide +kernel) ?_
  refine v_aload_n C 0 0 rfl 21 rfl (by decide +kernel) ?_
  refine v_aload_n C 0 0 rfl 22 rfl (by decide +kernel) ?_
  obtain ⟨b19, hb19, hf⟩ := drf_e hf
  obtain ⟨hk_b19, hf⟩ := grd_e hf
  refine v_getR C 9 8 hb19 rfl nin_9 (ns_kd_lt hk_a0 (by decide)) hk_a0 (by decide) (by decide) rfl 29 tw_983 rfl 25 rfl (by decide +kernel) ?_
  refine v_iload_n C 1 1 rfl 26 rfl (by decide +kernel) ?_
  obtain ⟨hi20, hf⟩ := grd_e hf
  refine v_iald C (ns_kd_lt hk_b19 (by decide)) hk_b19 hi20 27 rfl (by decide +kernel) ?_
  obtain ⟨σ21, hσ21, hf⟩ := bnd_e hf
  refine v_putI C 9 27 hσ21 rfl nin_9 ny_9 nty_9 nnm_9 (ns_kd_lt hk_a0 (by decide)) hk_a0 (by decide) (by decide) rfl rfl rfl rfl 191 tw_1002 rfl 30 rfl (by decide +kernel) ?_
  refine v_aload_n C 0 0 rfl 31 rfl (by decide +kernel) ?_
  refine v_aload_n C 0 0 rfl 32 rfl (by decide +kernel) ?_
  obtain ⟨b22, hb22, hf⟩ := drf_e hf
  obtain ⟨hk_b22, hf⟩ := grd_e hf
  refine v_getR C 9 9 hb22 rfl nin_9 (ns_kd_lt hk_a0 (by decide)) hk_a0 (by decide) (by decide) rfl 32 tw_984 rfl 35 rfl (by decide +kernel) ?_
  refine v_iload_n C 1 1 rfl 36 rfl (by decide +kernel) ?_
  obtain ⟨hi23, hf⟩ := grd_e hf
  refine v_iald C (ns_kd_lt hk_b22 (by decide)) hk_b22 hi23 37 rfl (by decide +kernel) ?_
  obtain ⟨σ24, hσ24, hf⟩ := bnd_e hf
  refine v_putI C 9 28 hσ24 rfl nin_9 ny_9 nty_9 nnm_9 (ns_kd_lt hk_a0 (by decide)) hk_a0 (by decide) (by decide) rfl rfl rfl rfl 194 tw_1003 rfl 40 rfl (by decide +kernel) ?_
  obtain ⟨rfl, rfl⟩ := ret_e hf
  exact v_vret C hr (by decide +kernel)
theorem hd_M_begins : (⟨"NinthStepModel", "begins", "(I)V"⟩ : MethodName).cls = "NinthStepModel" ∧ (⟨"NinthStepModel", "begins", "(I)V"⟩ : MethodName).cls ≠ "java/lang/invoke/MethodHandle" ∧ (⟨"NinthStepModel", "begins", "(I)V"⟩ : MethodName).cls ≠ "java/lang/invoke/VarHandle" ∧ (parseMethodDescriptor (⟨"NinthStepModel", "begins", "(I)V"⟩ : MethodName).desc).map (fun d => d.parameters.length) = some 1 := by decide +kernel
def g_M_stopsHere (σ : ns_St) (a0 : Nat) : Option (Int32 × ns_St) := grd (ns_kd a0 = 9) <| ite2 ((σ.1 a0 28) < (σ.1 a0 26)) (some ((0 : Int32), σ)) (ite2 ((σ.1 a0 25) = (3 : Int32)) (cl2 (g_M_isThere σ a0 (σ.1 a0 27) (4 : Int32)) fun r12 σ11 => ite2 (r12 = 0) (bnd (ns_pI σ11 a0 28 (0 : Int32)) fun σ14 => some ((1 : Int32), σ14)) (some ((0 : Int32), σ11))) (bnd (ns_pI σ a0 28 (0 : Int32)) fun σ10 => some ((1 : Int32), σ10)))
theorem c_M_stopsHere (G : ns_G) (l : Launch) (σ : ns_St) (a0 : Nat) {r : Int32} {σ' : ns_St} (hf : g_M_stopsHere σ a0 = some (r, σ')) : ns_ok G l ⟨"NinthStepModel", "stopsHere", "()Z"⟩ prog_11_method_41_code 1 (some .boolean) 1 22 0 0 [.ref (G.1 + a0)] ns_N σ (some (.int r)) ns_N σ' := by
  refine v_open (by decide) (Nat.le_of_ble_eq_true rfl) rfl ?_
  intro p e s m below meth c C hr _
  have C : ns_Cx G p s m _ meth c prog_11_method_41_code "NinthStepModel" 1 := C
  unfold g_M_stopsHere at hf
  obtain ⟨hk_a0, hf⟩ := grd_e hf
  refine v_aload_n C 0 0 rfl 1 rfl (by decide +kernel) ?_
  refine v_getI C 9 28 rfl nin_9 (ns_kd_lt hk_a0 (by decide)) hk_a0 (by decide) (by decide) rfl 194 tw_1003 rfl 4 rfl (by decide +kernel) ?_
  refine v_aload_n C 0 0 rfl 5 rfl (by decide +kernel) ?_
  refine v_getI C 9 26 rfl nin_9 (ns_kd_lt hk_a0 (by decide)) hk_a0 (by decide) (by decide) rfl 188 tw_1001 rfl 8 rfl (by decide +kernel) ?_
  refine v_icmp_lt C 31 11 rfl (by decide +kernel) (fun h8 => ?_) (fun h8 => ?_)
  · have hf := ite2_t hf h8
    refine v_iconst C (0) (0) (by decide) 32 rfl (by decide +kernel) ?_
    obtain ⟨rfl, rfl⟩ := ret_e hf
    exact v_zret C hr rfl (by decide +kernel)
  · have hf := ite2_f hf h8
    refine v_aload_n C 0 0 rfl 12 rfl (by decide +kernel) ?_
    refine v_getI C 9 25 rfl nin_9 (ns_kd_lt hk_a0 (by decide)) hk_a0 (by decide) (by decide) rfl 185 tw_1000 rfl 15 rfl (by decide +kernel) ?_
    refine v_iconst C (3) (3) (by decide) 16 rfl (by decide +kernel) ?_
    refine v_icmp_ne C 33 19 rfl (by decide +kernel) (fun h9 => ?_) (fun h9 => ?_)
    · have hf := ite2_f hf h9
      refine v_aload_n C 0 0 rfl 34 rfl (by decide +kernel) ?_
      refine v_iconst C (0) (0) (by decide) 35 rfl (by decide +kernel) ?_
      obtain ⟨σ10, hσ10, hf⟩ := bnd_e hf
      refine v_putI C 9 28 hσ10 rfl nin_9 ny_9 nty_9 nnm_9 (ns_kd_lt hk_a0 (by decide)) hk_a0 (by decide) (by decide) rfl rfl rfl rfl 194 tw_1003 rfl 38 rfl (by decide +kernel) ?_
      refine v_iconst C (1) (1) (by decide) 39 rfl (by decide +kernel) ?_
      obtain ⟨rfl, rfl⟩ := ret_e hf
      exact v_zret C hr rfl (by decide +kernel)
    · have hf := ite2_t hf h9
      refine v_aload_n C 0 0 rfl 20 rfl (by decide +kernel) ?_
      refine v_aload_n C 0 0 rfl 21 rfl (by decide +kernel) ?_
      refine v_getI C 9 27 rfl nin_9 (ns_kd_lt hk_a0 (by decide)) hk_a0 (by decide) (by decide) rfl 191 tw_1002 rfl 24 rfl (by decide +kernel) ?_
      refine v_iconst C (4) (4) (by decide) 25 rfl (by decide +kernel) ?_
      obtain ⟨r12, σ11, hcr12, hf⟩ := cl2_e hf
      refine v_cV C 9 rfl (ns_kd_lt hk_a0 (by decide)) hk_a0 (by decide) [.int (σ.1 a0 27), .int (4 : Int32)] [] (c_M_isThere G l σ a0 (σ.1 a0 27) (4 : Int32) hcr12) 87 2 tw_1130 tw_1127 tw_1129 ts_79 tw_10 hd_M_isThere rfl ⟨(Nat.le_of_ble_eq_true rfl), (Nat.le_of_ble_eq_true rfl)⟩ ⟨(Nat.le_of_ble_eq_true rfl), (Nat.le_of_ble_eq_true rfl)⟩ (Nat.le_of_ble_eq_true rfl) rfl 28 rfl (by decide +kernel) [.int r12] rfl ?_
      refine v_if_eq C 33 31 rfl (by decide +kernel) (fun h13 => ?_) (fun h13 => ?_)
      · have hf := ite2_t hf h13
        refine v_aload_n C 0 0 rfl 34 rfl (by decide +kernel) ?_
        refine v_iconst C (0) (0) (by decide) 35 rfl (by decide +kernel) ?_
        obtain ⟨σ14, hσ14, hf⟩ := bnd_e hf
        refine v_putI C 9 28 hσ14 rfl nin_9 ny_9 nty_9 nnm_9 (ns_kd_lt hk_a0 (by decide)) hk_a0 (by decide) (by decide) rfl rfl rfl rfl 194 tw_1003 rfl 38 rfl (by decide +kernel) ?_
        refine v_iconst C (1) (1) (by decide) 39 rfl (by decide +kernel) ?_
        obtain ⟨rfl, rfl⟩ := ret_e hf
        exact v_zret C hr rfl (by decide +kernel)
      · have hf := ite2_f hf h13
        refine v_iconst C (0) (0) (by decide) 32 rfl (by decide +kernel) ?_
        obtain ⟨rfl, rfl⟩ := ret_e hf
        exact v_zret C hr rfl (by decide +kernel)
theorem hd_M_stopsHere : (⟨"NinthStepModel", "stopsHere", "()Z"⟩ : MethodName).cls = "NinthStepModel" ∧ (⟨"NinthStepModel", "stopsHere", "()Z"⟩ : MethodName).cls ≠ "java/lang/invoke/MethodHandle" ∧ (⟨"NinthStepModel", "stopsHere", "()Z"⟩ : MethodName).cls ≠ "java/lang/invoke/VarHandle" ∧ (parseMethodDescriptor (⟨"NinthStepModel", "stopsHere", "()Z"⟩ : MethodName).desc).map (fun d => d.parameters.length) = some 0 := by decide +kernel
