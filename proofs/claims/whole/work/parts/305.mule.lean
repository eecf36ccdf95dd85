/-- what there is of the pass and of the MULES -/
theorem Wnow.get {B : Nat} {σ : ns_St} (h : Wnow σ B) : ∃ E H : Nat, σ.1 65 3 = nI E ∧ σ.1 65 5 = nI H ∧ H ≤ 6 ∧ GR σ 2 (σ.1 69) E ∧ σ.1 1 2 = nI H ∧ ∀ j, j < H → ∃ K N A C O : Nat, MV E B K N A C O ∧ MU σ (4 + j) K N A C O (σ.1 74 j) ∧ σ.1 70 j = nI K ∧ σ.1 71 j = nI N ∧ σ.1 72 j = nI A ∧ σ.1 73 j = nI C ∧ σ.1 75 j = nI O := by
  obtain ⟨E, H, a1, a2, a3, a4, a5, a6, a7, a8, a9, a10⟩ := h
  exact ⟨E, H, a1, a2, a3, a4, a5, a10⟩
/-- one MULE changes, in both -/
theorem Inv.mul {B : Nat} {σ σ' : ns_St} (h : Inv B σ) {E H j : Nat} (hE : σ.1 65 3 = nI E) (hH : σ.1 65 5 = nI H) (hE60 : E ≤ 60) (hH6 : H ≤ 6) (hj : j < H) (hr : σ'.2.2 = σ.2.2) (hJ : σ'.2.1 = σ.2.1) (h1 : ∀ c, c ≠ 4 + j → ¬ (70 ≤ c ∧ c ≤ 75) → σ'.1 c = σ.1 c) (h2 : ∀ c i, 70 ≤ c → c ≤ 75 → i ≠ j → σ'.1 c i = σ.1 c i) {K N A C O : Nat} (hv : MV E B K N A C O) (hm : MU σ' (4 + j) K N A C O (σ'.1 74 j)) (m0 : σ'.1 70 j = nI K) (m1 : σ'.1 71 j = nI N) (m2 : σ'.1 72 j = nI A) (m3 : σ'.1 73 j = nI C) (m5 : σ'.1 75 j = nI O) : Inv B σ' := by
  obtain ⟨⟨g1, g2, hrf⟩, hw, him, hsh, htp, hrs⟩ := h
  have key : ∀ c, (c < 4 ∨ 10 ≤ c) → ¬ (70 ≤ c ∧ c ≤ 75) → σ'.1 c = σ.1 c := fun c a b => h1 c (by omega) b
  have k65 := key 65 (by omega) (by omega)
  refine ⟨⟨g1, g2, by rw [hr]; exact hrf⟩, ?_, him.cong (by rw [key 0 (by omega) (by omega)]) (by rw [k65]) (fun c _ _ => key c (by omega) (by omega)) (by rw [hJ]) (key 78 (by omega) (by omega)), hsh.cong (fun c _ _ => key c (by omega) (by omega)) (fun c _ _ => by rw [hJ]) (key 66 (by omega) (by omega)) (key 67 (by omega) (by omega)) (by rw [hJ]) (by rw [k65]), htp.cong (key 29 (by omega) (by omega)) (key 30 (by omega) (by omega)) (key 76 (by omega) (by omega)) (by rw [k65]), hrs.cong (key 48 (by omega) (by omega)) (key 77 (by omega) (by omega))⟩
  obtain ⟨E2, H2, a1, a2, a3, a4, a5, a6, a7, a8, a9, a10⟩ := hw
  have e1 : E2 = E := (nI_eq (by have := a4.2.2.1; omega) (by omega)).mp (a1.symm.trans hE)
  have e2 : H2 = H := (nI_eq (by omega) (by omega)).mp (a2.symm.trans hH)
  subst e1; subst e2
  have k1 := key 1 (by omega) (by omega)
  refine ⟨E2, H2, by rw [k65]; exact a1, by rw [k65]; exact a2, a3, ?_, by rw [k1]; exact a5, by rw [k1, k65]; exact a6, by rw [k65]; exact a7, by rw [k1, k65]; exact a8, by rw [k1, k65]; exact a9, ?_⟩
  · rw [key 69 (by omega) (by omega)]; exact a4.cong (key 2 (by omega) (by omega)) (by rw [hJ])
  · intro i hi
    by_cases hij : i = j
    · subst hij
      exact ⟨K, N, A, C, O, hv, hm, m0, m1, m2, m3, m5⟩
    · obtain ⟨K', N', A', C', O', b1, b2, b3, b4, b5, b6, b7⟩ := a10 i hi
      refine ⟨K', N', A', C', O', b1, ?_, by rw [h2 70 i (by omega) (by omega) hij]; exact b3, by rw [h2 71 i (by omega) (by omega) hij]; exact b4, by rw [h2 72 i (by omega) (by omega) hij]; exact b5, by rw [h2 73 i (by omega) (by omega) hij]; exact b6, by rw [h2 75 i (by omega) (by omega) hij]; exact b7⟩
      rw [h2 74 i (by omega) (by omega) hij]
      exact b2.cong (h1 _ (by omega) (by omega))
theorem k_muleOf {B : Nat} {σ : ns_St} (h : Inv B σ) (x y : Int32) : both B (g_N_muleOf σ 0 x y) (fun σ => g_M_muleOf σ 65 x y) := by
  obtain ⟨g1, g2, hR⟩ := h.1
  obtain ⟨E, H, a1, a2, a3, a4, a5, a6⟩ := h.2.1.get
  rcases mu_cases x a3 with ⟨j, hj, rfl, hx⟩ | ⟨hx, hx2⟩
  · obtain ⟨K, N, A, C, O, b1, b2, b3, b4, b5, b6, b7⟩ := a6 j hj
    obtain ⟨u0, u1, u2, u3, u4, u5, u6, u7⟩ := b2
    have hk := kd_m4 j (by omega)
    have i0 : ns_in (nI j) (ns_ln 70) := ns_inI (show j < 6 by omega) (by decide)
    have i1 : ns_in (nI j) (ns_ln 71) := ns_inI (show j < 6 by omega) (by decide)
    have i2 : ns_in (nI j) (ns_ln 72) := ns_inI (show j < 6 by omega) (by decide)
    have i3 : ns_in (nI j) (ns_ln 73) := ns_inI (show j < 6 by omega) (by decide)
    have i4 : ns_in (nI j) (ns_ln 74) := ns_inI (show j < 6 by omega) (by decide)
    have i5 : ns_in (nI j) (ns_ln 75) := ns_inI (show j < 6 by omega) (by decide)
    have hN : g_N_muleOf σ 0 (nI j) y = ite2 (y = 0) (some (σ.1 (4 + j) 0, σ)) (ite2 (y = 1) (some (σ.1 (4 + j) 1, σ)) (ite2 (y = 2) (some (σ.1 (4 + j) 2, σ)) (ite2 (y = 3) (some (σ.1 (4 + j) 3, σ)) (ite2 (y = 4) (some (σ.1 (4 + j) 4, σ)) (ite2 (y = 5) (some (σ.1 (4 + j) 5, σ)) (cl2 (g_N_refuse σ 0 (-2)) fun r σ' => some (r, σ'))))))) := by
      unfold g_N_muleOf
      simp only [gk_0, hR, rg_0_0, ev_drf, gk_1, e_muleAt hR a3 a5 hj, ev_cl2, ev_ons, grd_t hk]
    have hM : ∀ τ : ns_St, τ.2.2 = ns_rg g1 g2 → τ.1 65 5 = nI H → g_M_muleOf τ 65 (nI j) y = ite2 (y = 0) (some (τ.1 70 j, τ)) (ite2 (y = 1) (some (τ.1 71 j, τ)) (ite2 (y = 2) (some (τ.1 72 j, τ)) (ite2 (y = 3) (some (τ.1 73 j, τ)) (ite2 (y = 4) (some (τ.1 74 j, τ)) (ite2 (y = 5) (some (τ.1 75 j, τ)) (cl2 (g_M_no τ 65 (-2)) fun r σ' => some (r, σ'))))))) := by
      intro τ hτ hτ5
      unfold g_M_muleOf
      rw [gk_65, e_isMule, ev_cl2, hτ5, ite2_y hx]
      simp only [hτ, rg_65_6, rg_65_7, rg_65_8, rg_65_9, rg_65_10, rg_65_11, ev_drf, gk_70, gk_71, gk_72, gk_73, gk_74, gk_75, grd_t i0, grd_t i1, grd_t i2, grd_t i3, grd_t i4, grd_t i5]
      rw [ns_ixI (by omega)]
    have fin : ∀ v : Int32, g_N_muleOf σ 0 (nI j) y = some (v, σ) → g_M_muleOf σ 65 (nI j) y = some (v, σ) → both B (g_N_muleOf σ 0 (nI j) y) (fun σ => g_M_muleOf σ 65 (nI j) y) := fun v p q => ⟨v, σ, σ, p, q, h⟩
    by_cases y0 : y = 0
    · exact fin (nI K) (by rw [hN, ite2_p y0, u0]) (by rw [hM σ hR a2, ite2_p y0, b3])
    by_cases y1 : y = 1
    · exact fin (nI N) (by rw [hN, ite2_n y0, ite2_p y1, u1]) (by rw [hM σ hR a2, ite2_n y0, ite2_p y1, b4])
    by_cases y2 : y = 2
    · exact fin (nI A) (by rw [hN, ite2_n y0, ite2_n y1, ite2_p y2, u2]) (by rw [hM σ hR a2, ite2_n y0, ite2_n y1, ite2_p y2, b5])
    by_cases y3 : y = 3
    · exact fin (nI C) (by rw [hN, ite2_n y0, ite2_n y1, ite2_n y2, ite2_p y3, u3]) (by rw [hM σ hR a2, ite2_n y0, ite2_n y1, ite2_n y2, ite2_p y3, b6])
    by_cases y4 : y = 4
    · exact fin (σ.1 74 j) (by rw [hN, ite2_n y0, ite2_n y1, ite2_n y2, ite2_n y3, ite2_p y4, u4]) (by rw [hM σ hR a2, ite2_n y0, ite2_n y1, ite2_n y2, ite2_n y3, ite2_p y4])
    by_cases y5 : y = 5
    · exact fin (nI O) (by rw [hN, ite2_n y0, ite2_n y1, ite2_n y2, ite2_n y3, ite2_n y4, ite2_p y5, u5]) (by rw [hM σ hR a2, ite2_n y0, ite2_n y1, ite2_n y2, ite2_n y3, ite2_n y4, ite2_p y5, b7])
    refine both.bad h hR (z := 0) (by decide) (c := -2) (by decide) (by decide) ?_ ?_
    · rw [hN, ite2_n y0, ite2_n y1, ite2_n y2, ite2_n y3, ite2_n y4, ite2_n y5]
    · show g_M_muleOf (rfN σ 0) 65 (nI j) y = _
      rw [hM (rfN σ 0) hR (by rw [rfN, pI_ne _ _ _ (by decide)]; exact a2), ite2_n y0, ite2_n y1, ite2_n y2, ite2_n y3, ite2_n y4, ite2_n y5]
  · refine both.bad h hR (z := 0) (by decide) (c := -2) (by decide) (by decide) ?_ ?_
    · unfold g_N_muleOf
      simp only [gk_0, hR, rg_0_0, ev_drf, gk_1, e_muleAtN a5 hx2, ev_cl2, ev_onn]
    · show g_M_muleOf (rfN σ 0) 65 x y = _
      have e5 : (rfN σ 0).1 65 5 = nI H := by rw [rfN, pI_ne _ _ _ (by decide)]; exact a2
      unfold g_M_muleOf
      rw [gk_65, e_isMule, ev_cl2, e5, ite2_z hx]
theorem k_teach {B : Nat} {σ : ns_St} (h : Inv B σ) (x v : Int32) : both B (g_N_teach σ 0 x v) (fun σ => g_M_teach σ 65 x v) := by
  obtain ⟨g1, g2, hR⟩ := h.1
  obtain ⟨E, H, a1, a2, a3, a4, a5, a6⟩ := h.2.1.get
  rcases mu_cases x a3 with ⟨j, hj, rfl, hx⟩ | ⟨hx, hx2⟩
  · obtain ⟨K, N, A, C, O, b1, b2, b3, b4, b5, b6, b7⟩ := a6 j hj
    obtain ⟨u0, u1, u2, u3, u4, u5, u6, u7⟩ := b2
    have hk := kd_m4 j (by omega)
    have i1 : ns_in (nI j) (ns_ln 71) := ns_inI (show j < 6 by omega) (by decide)
    have i3 : ns_in (nI j) (ns_ln 73) := ns_inI (show j < 6 by omega) (by decide)
    by_cases hv : 2 ≤ v ∧ v ≤ 13
    · obtain ⟨w, hw1, hw2⟩ := ns_rng (x := v) (n := 13) (by decide) ⟨Int32.le_trans (by decide) hv.1, hv.2⟩
      have hw3 : 2 ≤ w := by
        have := hv.1
        rw [hw2] at this
        exact (nI_leI (a := 2) (by decide) (by omega)).mp this
      refine ⟨nI N, ns_pI (ns_pI σ (4 + j) 1 v) (4 + j) 3 0, ns_pI (ns_pI (ns_pI (ns_pI σ (4 + j) 1 v) (4 + j) 3 0) 71 j v) 73 j 0, ?_, ?_, ?_⟩
      · unfold g_N_teach
        simp only [gk_0, hR, rg_0_0, ev_drf, gk_1, e_muleAt hR a3 a5 hj, ev_cl2, ev_ons, grd_t hk, e_isWithin, ite2_y hv, ev_bnd, u1]
      · show g_M_teach (ns_pI (ns_pI σ (4 + j) 1 v) (4 + j) 3 0) 65 (nI j) v = _
        have e5 : (ns_pI (ns_pI σ (4 + j) 1 v) (4 + j) 3 0).1 65 5 = nI H := by rw [pI_ne _ _ _ (by omega), pI_ne _ _ _ (by omega)]; exact a2
        have e71 : (ns_pI (ns_pI σ (4 + j) 1 v) (4 + j) 3 0).1 71 j = nI N := by rw [pI_ne _ _ _ (by omega), pI_ne _ _ _ (by omega)]; exact b4
        unfold g_M_teach
        rw [gk_65, e_isMule, ev_cl2, e5, ite2_y hx]
        simp only [e_within, ev_cl2, ite2_y hv, pI_R, hR, rg_65_7, rg_65_9, ev_drf, gk_71, gk_73, grd_t i1, grd_t i3, ev_bnd]
        rw [ns_ixI (by omega), e71]
      · have key : ∀ c, c ≠ 4 + j → c ≠ 71 → c ≠ 73 → (ns_pI (ns_pI (ns_pI (ns_pI σ (4 + j) 1 v) (4 + j) 3 0) 71 j v) 73 j 0).1 c = σ.1 c := fun c p q r => by rw [pI_ne _ _ _ r, pI_ne _ _ _ q, pI_ne _ _ _ p, pI_ne _ _ _ p]
        have kc : (ns_pI (ns_pI (ns_pI (ns_pI σ (4 + j) 1 v) (4 + j) 3 0) 71 j v) 73 j 0).1 (4 + j) = (ns_pI (ns_pI σ (4 + j) 1 v) (4 + j) 3 0).1 (4 + j) := by rw [pI_ne _ _ _ (by omega), pI_ne _ _ _ (by omega)]
        refine h.mul a1 a2 a4.2.2.1 a3 hj rfl rfl (fun c p q => key c p (by omega) (by omega)) ?_ (K := K) (N := w) (A := A) (C := 0) (O := O) ?_ ?_ ?_ ?_ ?_ ?_ ?_
        · intro c i p q r
          by_cases c71 : c = 71
          · subst c71; rw [pI_ne _ _ _ (by decide), pI_st _ _ _ r, pI_ne _ _ _ (by omega), pI_ne _ _ _ (by omega)]
          · by_cases c73 : c = 73
            · subst c73; rw [pI_st _ _ _ r, pI_ne _ _ _ (by decide), pI_ne _ _ _ (by omega), pI_ne _ _ _ (by omega)]
            · rw [key c (by omega) c71 c73]
        · obtain ⟨c1, c2, c3, c4, c5, c6, c7, c8⟩ := b1
          exact ⟨c1, hw3, by omega, c4, by omega, c6, fun _ => by omega, fun _ => hw1⟩
        · unfold MU
          rw [kc, key 74 (by omega) (by omega) (by omega), pI_st _ _ _ (by decide), pI_st _ _ _ (by decide), pI_st _ _ _ (by decide), pI_at, pI_st _ _ _ (by decide), pI_st _ _ _ (by decide), pI_at, pI_st _ _ _ (by decide), pI_st _ _ _ (by decide), pI_st _ _ _ (by decide), pI_st _ _ _ (by decide), pI_st _ _ _ (by decide), pI_st _ _ _ (by decide), pI_st _ _ _ (by decide), pI_st _ _ _ (by decide)]
          exact ⟨u0, hw2, u2, rfl, u4, u5, u6, u7⟩
        · rw [key 70 (by omega) (by omega) (by omega)]; exact b3
        · rw [pI_ne _ _ _ (by decide), pI_at]; exact hw2
        · rw [key 72 (by omega) (by omega) (by omega)]; exact b5
        · rw [pI_at]; rfl
        · rw [key 75 (by omega) (by omega) (by omega)]; exact b7
    · refine both.bad h hR (z := 0) (by decide) (c := -2) (by decide) (by decide) ?_ ?_
      · unfold g_N_teach
        simp only [gk_0, hR, rg_0_0, ev_drf, gk_1, e_muleAt hR a3 a5 hj, ev_cl2, ev_ons, grd_t hk, e_isWithin, ite2_z hv]
      · show g_M_teach (rfN σ 0) 65 (nI j) v = _
        have e5 : (rfN σ 0).1 65 5 = nI H := by rw [rfN, pI_ne _ _ _ (by decide)]; exact a2
        unfold g_M_teach
        rw [gk_65, e_isMule, ev_cl2, e5, ite2_y hx]
        simp only [e_within, ev_cl2, ite2_z hv]
  · refine both.bad h hR (z := 0) (by decide) (c := -2) (by decide) (by decide) ?_ ?_
    · unfold g_N_teach
      simp only [gk_0, hR, rg_0_0, ev_drf, gk_1, e_muleAtN a5 hx2, ev_cl2, ev_onn]
    · show g_M_teach (rfN σ 0) 65 x v = _
      have e5 : (rfN σ 0).1 65 5 = nI H := by rw [rfN, pI_ne _ _ _ (by decide)]; exact a2
      unfold g_M_teach
      rw [gk_65, e_isMule, ev_cl2, e5, ite2_z hx]
