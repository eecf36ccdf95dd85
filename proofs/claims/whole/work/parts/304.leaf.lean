theorem ns_rng {x : Int32} {n : Nat} (hn : n < 2 ^ 31) (h : 0 ≤ x ∧ x ≤ nI n) : ∃ j, j ≤ n ∧ x = nI j := by
  obtain ⟨j, h1, h2⟩ := nI_of2 (M := nI n) (n := n) (nI_toInt hn) (Int32.not_lt.mpr h.1) h.2
  exact ⟨j, h1, h2⟩
theorem ns_inI {j n : Nat} (h : j < n) (hn : n < 2 ^ 31) : ns_in (nI j) n := nI_in h hn
theorem ns_ixI {j : Nat} (h : j < 2 ^ 31) : ns_ix (nI j) = j := nI_clamp h
/-- a SHELF's number -/
theorem sh_cases (x : Int32) : (∃ j, j < 8 ∧ x = nI j ∧ (0 ≤ x ∧ x ≤ 7)) ∨ ¬ (0 ≤ x ∧ x ≤ 7) := by
  by_cases h : 0 ≤ x ∧ x ≤ 7
  · obtain ⟨j, h1, h2⟩ := ns_rng (n := 7) (by decide) h
    exact Or.inl ⟨j, by omega, h2, h⟩
  · exact Or.inr h
theorem e_shelfAt {σ : ns_St} {g1 g2 : Option Nat} (hR : σ.2.2 = ns_rg g1 g2) {j : Nat} (hj : j < 8) (h : (0 : Int32) ≤ nI j ∧ nI j ≤ (7 : Int32)) : g_N_shelfAt σ 0 (nI j) = some (some (49 + 2 * j), σ) := by
  have hin : ns_in (nI j) (ns_ln 28) := ns_inI hj (by decide)
  unfold g_N_shelfAt
  simp only [gk_0, e_isWithin, ev_cl2, ite2_y h, hR, rg_0_3, ev_drf, gk_28, grd_t hin]
  rw [ns_ixI (by omega), rg_28 g1 g2 hj, ev_drf, grd_t (kd_sh j hj)]
theorem e_shelfAtN {σ : ns_St} {x : Int32} (h : ¬ (0 ≤ x ∧ x ≤ 7)) : g_N_shelfAt σ 0 x = some (none, σ) := by
  unfold g_N_shelfAt
  simp only [gk_0, e_isWithin, ev_cl2, ite2_z h]
/-- a MULE's number, against a herd of H -/
theorem mu_cases (x : Int32) {H : Nat} (hH : H ≤ 6) : (∃ j, j < H ∧ x = nI j ∧ (0 ≤ x ∧ x ≤ nI H - 1)) ∨ (¬ (0 ≤ x ∧ x ≤ nI H - 1) ∧ (x < 0 ∨ nI H ≤ x)) := by
  by_cases h0 : x < 0
  · exact Or.inr ⟨fun h => absurd h0 (Int32.not_lt.mpr h.1), Or.inl h0⟩
  · have h0' : 0 ≤ x := Int32.not_lt.mp h0
    by_cases h1 : nI H ≤ x
    · refine Or.inr ⟨fun h => ?_, Or.inr h1⟩
      cases H with
      | zero =>
        have h2 : x ≤ nI 0 - 1 := h.2
        have : (nI 0 - 1 : Int32) < 0 := by decide
        exact absurd (Int32.lt_of_le_of_lt h2 this) h0
      | succ n =>
        rw [nI_pred] at h
        have h3 : nI (n + 1) ≤ nI n := Int32.le_trans h1 h.2
        exact absurd h3 (nI_ge (by omega) (by omega))
    · have h1' : x < nI H := Int32.not_le.mp h1
      cases H with
      | zero =>
        have : x < 0 := h1'
        exact absurd this h0
      | succ n =>
        obtain ⟨j, g1, g2⟩ := ns_rng (x := x) (n := n + 1) (by omega) ⟨h0', Int32.le_of_lt h1'⟩
        have hj : j < n + 1 := by
          rcases Nat.lt_or_ge j (n + 1) with q | q
          · exact q
          · exfalso; rw [g2] at h1'; exact absurd h1' (nI_nlt q (by omega))
        refine Or.inl ⟨j, hj, g2, h0', ?_⟩
        rw [nI_pred, g2]; exact nI_le (by omega) (by omega)
theorem e_muleAt {σ : ns_St} {g1 g2 : Option Nat} (hR : σ.2.2 = ns_rg g1 g2) {H : Nat} (hH : H ≤ 6) (hh : σ.1 1 2 = nI H) {j : Nat} (hj : j < H) : g_World_muleAt σ 1 (nI j) = some (some (4 + j), σ) := by
  have hin : ns_in (nI j) (ns_ln 3) := ns_inI (show j < 6 by omega) (by decide)
  unfold g_World_muleAt
  rw [gk_1, ite2_n (nI_pos (by omega)), hh, ite2_n (nI_ge hj (by omega)), ite2_n (show ¬ (6 : Int32) ≤ nI j from nI_ge (b := 6) (by omega) (by decide))]
  simp only [hR, rg_1_1, ev_drf, gk_3, grd_t hin]
  rw [ns_ixI (by omega), rg_ml3 g1 g2 (by omega), ev_drf, grd_t (kd_m4 j (by omega))]
theorem e_muleAtN {σ : ns_St} {H : Nat} (hh : σ.1 1 2 = nI H) {x : Int32} (hx : x < 0 ∨ nI H ≤ x) : g_World_muleAt σ 1 x = some (none, σ) := by
  unfold g_World_muleAt
  rw [gk_1]
  by_cases h0 : x < 0
  · rw [ite2_p h0]
  · rw [ite2_n h0, hh, ite2_p (hx.resolve_left h0)]
theorem e_isMule (σ : ns_St) (x : Int32) : g_M_isMule σ 65 x = some (yn (0 ≤ x ∧ x ≤ σ.1 65 5 - 1), σ) := by
  unfold g_M_isMule
  simp only [gk_65, e_within, ev_cl2, grd_y]
theorem e_isPlaceM (σ : ns_St) (x : Int32) : g_M_isPlace σ 65 x = some (yn (0 ≤ x ∧ x ≤ σ.1 65 3), σ) := by
  unfold g_M_isPlace
  simp only [gk_65, e_within, ev_cl2, grd_y]
theorem e_isPlace {σ : ns_St} {g1 g2 : Option Nat} (hR : σ.2.2 = ns_rg g1 g2) (x : Int32) : g_N_isPlace σ 0 x = some (yn (0 ≤ x ∧ x ≤ σ.1 2 0), σ) := by
  unfold g_N_isPlace
  simp only [gk_0, hR, rg_0_0, ev_drf, gk_1, rg_1_0, gk_2, e_isWithin, ev_cl2, grd_y]
theorem e_trouble {σ : ns_St} {j : Nat} (hj : j < 8) : g_Shelf_troubleAsRow σ (49 + 2 * j) = some (if σ.1 (49 + 2 * j) 0 = -1 then -4 else if σ.1 (49 + 2 * j) 0 < 10 then 0 else -3, σ) := by
  unfold g_Shelf_troubleAsRow
  rw [grd_t (kd_sh j hj)]
  by_cases h1 : σ.1 (49 + 2 * j) 0 = -1
  · rw [ite2_p h1, if_pos h1]
  · rw [ite2_n h1, if_neg h1]
    by_cases h2 : σ.1 (49 + 2 * j) 0 < 10
    · rw [ite2_p h2, if_pos h2]
    · rw [ite2_n h2, if_neg h2]
theorem k_holds {B : Nat} {σ : ns_St} (h : Inv B σ) (s : Int32) : both B (g_N_holds σ 0 s) (fun σ => g_M_holds σ 65 s) := by
  obtain ⟨g1, g2, hR⟩ := h.1
  rcases sh_cases s with ⟨j, hj, rfl, hs⟩ | hs
  · refine ⟨σ.1 66 j, σ, σ, ?_, ?_, h⟩
    · unfold g_N_holds
      rw [gk_0, e_shelfAt hR hj hs, ev_cl2, ev_ons, grd_t (kd_sh j hj), (h.2.2.2.1 j hj).1]
    · show g_M_holds σ 65 (nI j) = _
      have hin : ns_in (nI j) (ns_ln 66) := ns_inI hj (by decide)
      unfold g_M_holds
      simp only [gk_65, e_within, ev_cl2, ite2_y hs, hR, rg_65_0, ev_drf, gk_66, grd_t hin]
      rw [ns_ixI (by omega)]
  · refine ⟨-1, σ, σ, ?_, ?_, h⟩
    · unfold g_N_holds
      rw [gk_0, e_shelfAtN hs, ev_cl2, ev_onn]
    · show g_M_holds σ 65 s = _
      unfold g_M_holds
      simp only [gk_65, e_within, ev_cl2, ite2_z hs]
/-- both tapes -/
theorem Inv.tape {B : Nat} {σ : ns_St} (h : Inv B σ) {σ' : ns_St} (hr : σ'.2.2 = σ.2.2) (hj : σ'.2.1 = σ.2.1) (h1 : ∀ c, c ≠ 29 → c ≠ 30 → c ≠ 65 → c ≠ 76 → σ'.1 c = σ.1 c) (h65 : ∀ k, k ≠ 15 → σ'.1 65 k = σ.1 65 k) (ht : Itp σ') : Inv B σ' := by
  obtain ⟨⟨g1, g2, hrf⟩, hw, him, hsh, htp, hrs⟩ := h
  refine ⟨⟨g1, g2, by rw [hr]; exact hrf⟩, hw.cong (fun c _ _ => h1 c (by omega) (by omega) (by omega) (by omega)) (by rw [hj]) (h65 3 (by omega)) (h65 5 (by omega)) (h65 12 (by omega)) (h65 13 (by omega)) (h65 14 (by omega)) (fun c _ _ => h1 c (by omega) (by omega) (by omega) (by omega)), him.cong (by rw [h1 0 (by omega) (by omega) (by omega) (by omega)]) (h65 22 (by omega)) (fun c _ _ => h1 c (by omega) (by omega) (by omega) (by omega)) (by rw [hj]) (h1 78 (by omega) (by omega) (by omega) (by omega)), hsh.cong (fun c _ _ => h1 c (by omega) (by omega) (by omega) (by omega)) (fun c _ _ => by rw [hj]) (h1 66 (by omega) (by omega) (by omega) (by omega)) (h1 67 (by omega) (by omega) (by omega) (by omega)) (by rw [hj]) (h65 5 (by omega)), ht, hrs.cong (h1 48 (by omega) (by omega) (by omega) (by omega)) (h1 77 (by omega) (by omega) (by omega) (by omega))⟩
theorem k_wipe {B : Nat} {σ : ns_St} (h : Inv B σ) : both B (g_N_wipe σ 0) (fun σ => g_M_wipe σ 65) := by
  obtain ⟨g1, g2, hR⟩ := h.1
  obtain ⟨z, hz, t1, t2, t3⟩ := h.2.2.2.2.1
  refine ⟨σ.1 29 1, ns_pI σ 29 1 0, ns_pI (ns_pI σ 29 1 0) 65 15 0, ?_, ?_, ?_⟩
  · unfold g_N_wipe
    simp only [gk_0, hR, rg_0_4, ev_drf, gk_29, ev_bnd]
  · show g_M_wipe (ns_pI σ 29 1 0) 65 = _
    unfold g_M_wipe
    simp only [gk_65, ev_bnd]
    rw [pI_ne _ _ _ (by decide), t1, t2]
  · refine h.tape rfl rfl (fun c a b d e => by rw [pI_ne _ _ _ d, pI_ne _ _ _ a]) (fun k hk => by rw [pI_st _ _ _ hk, pI_ne _ _ _ (by decide)]) ⟨0, by omega, ?_, ?_, fun i hi => absurd hi (by omega)⟩
    · rw [pI_ne _ _ _ (by decide), pI_at]; rfl
    · rw [pI_at]; rfl
theorem k_feed {B : Nat} {σ : ns_St} (h : Inv B σ) (v : Int32) : both B (g_N_feed σ 0 v) (fun σ => g_M_feed σ 65 v) := by
  obtain ⟨g1, g2, hR⟩ := h.1
  obtain ⟨z, hz, t1, t2, t3⟩ := h.2.2.2.2.1
  by_cases hv : 0 ≤ v ∧ v ≤ 255
  · by_cases hz2 : z < 250
    · have hc1 : nI z < (250 : Int32) := nI_lt (b := 250) hz2 (by decide)
      have hc2 : ¬ nI z = (250 : Int32) := fun e => absurd ((nI_eq (b := 250) (by omega) (by decide)).mp e) (by omega)
      have hin : ns_in (nI z) (ns_ln 30) := ns_inI hz2 (by decide)
      have hin2 : ns_in (nI z) (ns_ln 76) := ns_inI hz2 (by decide)
      obtain ⟨w, hw1, hw2⟩ := ns_rng (n := 255) (by decide) hv
      have hA : g_Tape_append σ 29 v = some (1, ns_pI (ns_pI σ 30 z v) 29 1 (nI z + 1)) := by
        unfold g_Tape_append
        rw [gk_29, t1, ite2_p hc1]
        simp only [hR, rg_29_0, ev_drf, gk_30, grd_t hin, ev_bnd]
        rw [ns_ixI (by omega), pI_ne _ _ _ (by decide), t1]
      refine ⟨nI z + 1, ns_pI (ns_pI σ 30 z v) 29 1 (nI z + 1), ns_pI (ns_pI (ns_pI (ns_pI σ 30 z v) 29 1 (nI z + 1)) 65 15 (nI z + 1)) 76 z v, ?_, ?_, ?_⟩
      · unfold g_N_feed
        simp only [gk_0, e_isWithin, ev_cl2, ite2_y hv, hR, rg_0_4, ev_drf, gk_29, hA]
        rw [ite2_n (by decide)]
        simp only [pI_R, hR, rg_0_4, ev_drf, gk_29, pI_at]
      · show g_M_feed (ns_pI (ns_pI σ 30 z v) 29 1 (nI z + 1)) 65 v = _
        have e15 : (ns_pI (ns_pI σ 30 z v) 29 1 (nI z + 1)).1 65 15 = nI z := by rw [pI_ne _ _ _ (by decide), pI_ne _ _ _ (by decide)]; exact t2
        unfold g_M_feed
        simp only [gk_65, e_within, ev_cl2, ite2_y hv, e15, ite2_n hc2, pI_R, hR, rg_65_16, ev_drf, gk_76, ev_bnd, grd_t hin2]
        rw [ns_ixI (by omega), pI_ne _ _ _ (by decide), pI_at]
      · refine h.tape rfl rfl (fun c a b d e => by rw [pI_ne _ _ _ e, pI_ne _ _ _ d, pI_ne _ _ _ a, pI_ne _ _ _ b]) (fun k hk => by rw [pI_ne _ _ _ (by decide), pI_st _ _ _ hk, pI_ne _ _ _ (by decide), pI_ne _ _ _ (by decide)]) ⟨z + 1, by omega, ?_, ?_, ?_⟩
        · rw [pI_ne _ _ _ (by decide), pI_ne _ _ _ (by decide), pI_at, nI_succ]
        · rw [pI_ne _ _ _ (by decide), pI_at, nI_succ]
        · intro i hi
          have e30 : (ns_pI (ns_pI (ns_pI (ns_pI σ 30 z v) 29 1 (nI z + 1)) 65 15 (nI z + 1)) 76 z v).1 30 = (ns_pI σ 30 z v).1 30 := by rw [pI_ne _ _ _ (by decide), pI_ne _ _ _ (by decide), pI_ne _ _ _ (by decide)]
          have e76 : (ns_pI (ns_pI (ns_pI σ 30 z v) 29 1 (nI z + 1)) 65 15 (nI z + 1)).1 76 = σ.1 76 := by rw [pI_ne _ _ _ (by decide), pI_ne _ _ _ (by decide), pI_ne _ _ _ (by decide)]
          rw [e30]
          by_cases hiz : i = z
          · subst hiz
            exact ⟨w, by omega, by rw [pI_at]; exact hw2, by rw [pI_at]; exact hw2⟩
          · obtain ⟨u, u1, u2, u3⟩ := t3 i (by omega)
            exact ⟨u, u1, by rw [pI_st _ _ _ hiz]; exact u2, by rw [pI_st _ _ _ hiz, e76]; exact u3⟩
    · have hz3 : z = 250 := by omega
      subst hz3
      refine both.bad h hR (z := 4) (by decide) (c := -6) (by decide) (by decide) ?_ ?_
      · have hA : g_Tape_append σ 29 v = some (0, σ) := by
          unfold g_Tape_append
          rw [gk_29, t1, ite2_n (by decide)]
        unfold g_N_feed
        simp only [gk_0, e_isWithin, ev_cl2, ite2_y hv, hR, rg_0_4, ev_drf, gk_29, hA]
        rw [ite2_p trivial]
      · show g_M_feed (rfN σ 4) 65 v = _
        have e15 : (rfN σ 4).1 65 15 = (250 : Int32) := by rw [rfN, pI_ne _ _ _ (by decide)]; exact t2
        unfold g_M_feed
        simp only [gk_65, e_within, ev_cl2, ite2_y hv]
        rw [ite2_p e15]
  · refine both.bad h hR (z := 0) (by decide) (c := -2) (by decide) (by decide) ?_ ?_
    · unfold g_N_feed
      simp only [gk_0, e_isWithin, ev_cl2, ite2_z hv]
    · show g_M_feed (rfN σ 0) 65 v = _
      unfold g_M_feed
      simp only [gk_65, e_within, ev_cl2, ite2_z hv]
