def g_law (xs : Nat → Int32) (L : Nat) (σ : ns_St) : Option (Unit × ns_St) := grd (ns_kd 0 = 8 ∧ 0 < ns_N) <| bnd (ns_z σ 0) fun σ1 => cl2 (g_N_init (0 + 1) σ1 0) fun n2 σ2 => grd (ns_kd n2 = 9 ∧ n2 < ns_N) <| bnd (ns_z σ2 n2) fun σ3 => cl2 (g_M_init (n2 + 1) σ3 n2) fun n4 σ4 => grd (n4 = ns_N ∧ 0 < n2) <| g_law_18 xs L ns_F σ4 0 n2 (0 : Int32)
theorem t_law (G : ns_G) (l : Launch) {p : Program} {e : Env} {s : State} {m : MethodId} {below : List Frame} {meth : Method} {c : Code} {b L : Nat} {xs : Nat → Int32} (C : ns_Cx G p s m #[Value.ref b] meth c code "NinthStepLaw" 4) (hr : meth.sig.returnType = ret) (hX : va_X b L xs s s.heap) (hbl : b < s.heap.size) (hG : G.1 = s.heap.size) {σ σ' : ns_St} (hf : g_law xs L σ = some ((), σ')) : VV G p l e room_1 s m #[Value.ref b] below meth c 4 0 0 (lw_Z below #[Value.ref b] s) 0 σ 0 [(0, .ref b)] [] := by
  unfold g_law at hf
  obtain ⟨hn1, hf⟩ := grd_e hf
  obtain ⟨σ1, hσ1, hf⟩ := bnd_e hf
  refine v_new C 8 rfl nin_8 ny_8 nty_8 nz_8 hσ1 hn1 (by decide) 7 tw_19 tw_20 tw_1 (Nat.le_of_ble_eq_true rfl) (Nat.le_of_ble_eq_true rfl) 3 rfl (by decide +kernel) ?_
  refine v_dup C rfl 4 rfl (by decide +kernel) ?_
  obtain ⟨n2, σ2, hc2, hf⟩ := cl2_e hf
  refine v_callI C [] [.ref (G.1 + 0)] (c_N_init G l (0 + 1) σ1 0 hc2) 9 0 tw_23 tw_21 tw_22 tw_1 rfl hd_N_init rfl ⟨(Nat.le_of_ble_eq_true rfl), (Nat.le_of_ble_eq_true rfl)⟩ ⟨(Nat.le_of_ble_eq_true rfl), (Nat.le_of_ble_eq_true rfl)⟩ (Nat.le_of_ble_eq_true rfl) rfl 7 rfl (by decide +kernel) ?_
  refine v_astore_n C 1 [(1, .ref (G.1 + 0)), (0, .ref b)] (by decide) rfl 8 rfl (by decide +kernel) ?_
  obtain ⟨hn2, hf⟩ := grd_e hf
  obtain ⟨σ3, hσ3, hf⟩ := bnd_e hf
  refine v_new C 9 rfl nin_9 ny_9 nty_9 nz_9 hσ3 hn2 (by decide) 10 tw_969 tw_970 tw_10 (Nat.le_of_ble_eq_true rfl) (Nat.le_of_ble_eq_true rfl) 11 rfl (by decide +kernel) ?_
  refine v_dup C rfl 12 rfl (by decide +kernel) ?_
  obtain ⟨n4, σ4, hc4, hf⟩ := cl2_e hf
  refine v_callI C [] [.ref (G.1 + n2)] (c_M_init G l (n2 + 1) σ3 n2 hc4) 12 0 tw_973 tw_971 tw_972 tw_10 rfl hd_M_init rfl ⟨(Nat.le_of_ble_eq_true rfl), (Nat.le_of_ble_eq_true rfl)⟩ ⟨(Nat.le_of_ble_eq_true rfl), (Nat.le_of_ble_eq_true rfl)⟩ (Nat.le_of_ble_eq_true rfl) rfl 15 rfl (by decide +kernel) ?_
  obtain ⟨hq, hf5⟩ := grd_e hf
  clear hf
  obtain ⟨hq1, hq2⟩ := hq
  subst hq1
  refine v_astore_n C 2 [(2, .ref (G.1 + n2)), (1, .ref (G.1 + 0)), (0, .ref b)] (by decide) rfl 16 rfl (by decide +kernel) ?_
  refine v_iconst C (0) (0) (by decide) 17 rfl (by decide +kernel) ?_
  refine v_istore_n C 3 [(3, .int (0 : Int32)), (2, .ref (G.1 + n2)), (1, .ref (G.1 + 0)), (0, .ref b)] (by decide) rfl 18 rfl (by decide +kernel) ?_
  refine v_sub [3, 2, 1, 0] rfl ?_
  exact t_law_18 G l C hr hX hbl hG ns_F σ4 0 n2 (0 : Int32) hn1.1 hn2.1 hf5
