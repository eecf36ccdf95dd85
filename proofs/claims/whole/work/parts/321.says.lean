theorem k_stand {B : Nat} {σ : ns_St} (h : Inv B σ) (hB : 64 ≤ B) (x y z : Int32) : both B (g_N_stand σ 0 x y z) (fun σ => g_M_stand σ 65 x y z) := by
  obtain ⟨g1, g2, hR⟩ := h.1
  obtain ⟨E, H, a1, a2, a3, hG, a5, a6⟩ := h.2.1.get
  have h60 := hG.2.2.1
  rcases mu_cases x a3 with ⟨j, hj, rfl, hx⟩ | ⟨hx, hx2⟩
  · obtain ⟨K, N, A, C, O, b1, b2, b3, b4, b5, b6, b7⟩ := a6 j hj
    obtain ⟨u0, u1, u2, u3, u4, u5, u6, u7⟩ := b2
    have hj6 : j < 6 := by omega
    have hk := kd_m4 j hj6
    have hN64 : N ≤ 64 := b1.2.2.1
    have i1 : ns_in (nI j) (ns_ln 71) := ns_inI (show j < 6 by omega) (by decide)
    have i2 : ns_in (nI j) (ns_ln 72) := ns_inI (show j < 6 by omega) (by decide)
    have i3 : ns_in (nI j) (ns_ln 73) := ns_inI (show j < 6 by omega) (by decide)
    have ix : ns_ix (nI j) = j := ns_ixI (by omega)
    have hN : g_N_stand σ 0 (nI j) y z = ite2 (yn (0 ≤ y ∧ y ≤ nI E) = 0) (cl2 (g_N_refuse σ 0 (-2 : Int32)) fun r σ' => some (r, σ')) (ite2 (yn (0 ≤ z ∧ z ≤ nI N - 1) = 0) (cl2 (g_N_refuse σ 0 (-2 : Int32)) fun r σ' => some (r, σ')) (some (nI A, ns_pI (ns_pI σ (4 + j) 2 y) (4 + j) 3 z))) := by
      unfold g_N_stand
      simp only [gk_0, hR, rg_0_0, ev_drf, gk_1, e_muleAt hR a3 a5 hj, ev_cl2, ev_ons, grd_t hk, e_isPlace hR, e_isWithin, ev_bnd]
      rw [hG.1, u1, u2]
    have hM : ∀ τ : ns_St, τ.2.2 = ns_rg g1 g2 → τ.1 65 5 = nI H → τ.1 65 3 = nI E → τ.1 71 j = nI N → τ.1 72 j = nI A → g_M_stand τ 65 (nI j) y z = ite2 (yn (0 ≤ y ∧ y ≤ nI E) = 0) (cl2 (g_M_no τ 65 (-2 : Int32)) fun r σ' => some (r, σ')) (ite2 (yn (0 ≤ z ∧ z ≤ nI N - 1) = 0) (cl2 (g_M_no τ 65 (-2 : Int32)) fun r σ' => some (r, σ')) (some (nI A, ns_pI (ns_pI τ 72 j y) 73 j z))) := fun τ t1 t2 t3 t4 t5 => by
      unfold g_M_stand
      rw [gk_65, e_isMule, ev_cl2, t2, ite2_y hx]
      simp only [e_isPlaceM, ev_cl2, pI_R, t1, rg_65_7, rg_65_8, rg_65_9, ev_drf, gk_71, gk_72, gk_73, grd_t i1, grd_t i2, grd_t i3, e_within, ev_bnd, ix]
      rw [t3, t4, t5]
    have r65 : ∀ q, (rfN σ q).1 65 = σ.1 65 := fun q => by rw [rfN, pI_ne _ _ _ (by decide)]
    have r71 : ∀ q, (rfN σ q).1 71 = σ.1 71 := fun q => by rw [rfN, pI_ne _ _ _ (by decide)]
    have r72 : ∀ q, (rfN σ q).1 72 = σ.1 72 := fun q => by rw [rfN, pI_ne _ _ _ (by decide)]
    have mR := hM (rfN σ 0) hR (by rw [r65]; exact a2) (by rw [r65]; exact a1) (by rw [r71]; exact b4) (by rw [r72]; exact b5)
    rcases rn_cases y (n := E) (by omega) with ⟨p, hp, rfl, hy⟩ | hy
    · rcases rg_cases z (n := N) (by omega) with ⟨c, hc, rfl, hz⟩ | ⟨hz, _⟩
      · have key : ∀ c', c' ≠ 4 + j → (ns_pI (ns_pI σ (4 + j) 2 (nI p)) (4 + j) 3 (nI c)).1 c' = σ.1 c' := fun c' q => by rw [pI_ne _ _ _ q, pI_ne _ _ _ q]
        refine ⟨nI A, ns_pI (ns_pI σ (4 + j) 2 (nI p)) (4 + j) 3 (nI c), ns_pI (ns_pI (ns_pI (ns_pI σ (4 + j) 2 (nI p)) (4 + j) 3 (nI c)) 72 j (nI p)) 73 j (nI c), ?_, ?_, ?_⟩
        · rw [hN, ite2_y hy, ite2_y hz]
        · show g_M_stand (ns_pI (ns_pI σ (4 + j) 2 (nI p)) (4 + j) 3 (nI c)) 65 (nI j) (nI p) (nI c) = _
          rw [hM (ns_pI (ns_pI σ (4 + j) 2 (nI p)) (4 + j) 3 (nI c)) hR (by rw [key 65 (by omega)]; exact a2) (by rw [key 65 (by omega)]; exact a1) (by rw [key 71 (by omega)]; exact b4) (by rw [key 72 (by omega)]; exact b5), ite2_y hy, ite2_y hz]
        · have key2 : ∀ c', c' ≠ 4 + j → c' ≠ 72 → c' ≠ 73 → (ns_pI (ns_pI (ns_pI (ns_pI σ (4 + j) 2 (nI p)) (4 + j) 3 (nI c)) 72 j (nI p)) 73 j (nI c)).1 c' = σ.1 c' := fun c' q r s => by rw [pI_ne _ _ _ s, pI_ne _ _ _ r, key c' q]
          have kc : (ns_pI (ns_pI (ns_pI (ns_pI σ (4 + j) 2 (nI p)) (4 + j) 3 (nI c)) 72 j (nI p)) 73 j (nI c)).1 (4 + j) = (ns_pI (ns_pI σ (4 + j) 2 (nI p)) (4 + j) 3 (nI c)).1 (4 + j) := by rw [pI_ne _ _ _ (by omega), pI_ne _ _ _ (by omega)]
          refine h.mul a1 a2 h60 a3 hj rfl rfl (fun c' p q => key2 c' p (by omega) (by omega)) ?_ (K := K) (N := N) (A := p) (C := c) (O := O) ?_ ?_ ?_ ?_ ?_ ?_ ?_
          · intro c' i q r s
            by_cases e2 : c' = 72
            · subst e2; rw [pI_ne _ _ _ (by decide), pI_st _ _ _ s, key 72 (by omega)]
            · by_cases e3 : c' = 73
              · subst e3; rw [pI_st _ _ _ s, pI_ne _ _ _ (by decide), key 73 (by omega)]
              · rw [key2 c' (by omega) e2 e3]
          · exact ⟨b1.1, b1.2.1, hN64, hp, by omega, b1.2.2.2.2.2.1, fun _ => hc, b1.2.2.2.2.2.2.2⟩
          · have kk : ∀ i, i ≠ 2 → i ≠ 3 → (ns_pI (ns_pI σ (4 + j) 2 (nI p)) (4 + j) 3 (nI c)).1 (4 + j) i = σ.1 (4 + j) i := fun i q r => by rw [pI_st _ _ _ r, pI_st _ _ _ q]
            have k74 := key2 74 (by omega) (by omega) (by omega)
            unfold MU
            rw [kc, k74]
            exact ⟨(kk 0 (by decide) (by decide)).trans u0, (kk 1 (by decide) (by decide)).trans u1, by rw [pI_st _ _ _ (by decide), pI_at], by rw [pI_at], (kk 4 (by decide) (by decide)).trans u4, (kk 5 (by decide) (by decide)).trans u5, (kk 6 (by decide) (by decide)).trans u6, (kk 7 (by decide) (by decide)).trans u7⟩
          · rw [key2 70 (by omega) (by omega) (by omega)]; exact b3
          · rw [key2 71 (by omega) (by omega) (by omega)]; exact b4
          · rw [pI_ne _ _ _ (by decide), pI_at]
          · rw [pI_at]
          · rw [key2 75 (by omega) (by omega) (by omega)]; exact b7
      · refine both.bad h hR (z := 0) (by decide) (c := -2) (by decide) (by decide) ?_ ?_
        · rw [hN, ite2_y hy, ite2_z hz]
        · show g_M_stand (rfN σ 0) 65 (nI j) (nI p) z = _
          rw [mR, ite2_y hy, ite2_z hz]
    · refine both.bad h hR (z := 0) (by decide) (c := -2) (by decide) (by decide) ?_ ?_
      · rw [hN, ite2_z hy]
      · show g_M_stand (rfN σ 0) 65 (nI j) y z = _
        rw [mR, ite2_z hy]
  · refine both.bad h hR (z := 0) (by decide) (c := -2) (by decide) (by decide) ?_ ?_
    · unfold g_N_stand
      simp only [gk_0, hR, rg_0_0, ev_drf, gk_1, e_muleAtN a5 hx2, ev_cl2, ev_onn]
    · show g_M_stand (rfN σ 0) 65 x y z = _
      have e5 : (rfN σ 0).1 65 5 = nI H := by rw [rfN, pI_ne _ _ _ (by decide)]; exact a2
      unfold g_M_stand
      rw [gk_65, e_isMule, ev_cl2, e5, ite2_z hx]
/-! home -/
def HmN (σ τ : ns_St) (H k : Nat) : Prop := τ.2 = σ.2 ∧ (∀ c, ¬ (4 ≤ c ∧ c < 4 + H) → τ.1 c = σ.1 c) ∧ ∀ j i, j < H → τ.1 (4 + j) i = if j < k ∧ (i = 2 ∨ i = 3) then 0 else σ.1 (4 + j) i
def aw (σ : ns_St) (j : Nat) : Bool := decide (¬ σ.1 (4 + j) 2 = 0)
theorem e_homeN {σ : ns_St} {g1 g2 : Option Nat} (hR : σ.2.2 = ns_rg g1 g2) {H : Nat} (hH : H ≤ 6) (hh : σ.1 1 2 = nI H) : ∀ (r k f : Nat) (τ : ns_St), r < f → k + r = H → HmN σ τ H k → ∃ τ', g_N_home_4 f τ 0 (nI (fb_ct (aw σ) k)) (nI k) = some (nI (fb_ct (aw σ) H), τ') ∧ HmN σ τ' H H := by
  intro r
  induction r with
  | zero =>
    intro k f τ hf hk hm
    obtain ⟨f, rfl⟩ : ∃ q, f = q + 1 := ⟨f - 1, by omega⟩
    have e : k = H := by omega
    subst e
    refine ⟨τ, ?_, hm⟩
    rw [g_N_home_4, hm.1, hR, rg_0_0, ev_drf, gk_1, hm.2.1 1 (by omega), hh, ite2_p (nI_le (Nat.le_refl _) (by omega))]
  | succ r ih =>
    intro k f τ hf hk hm
    obtain ⟨f, rfl⟩ : ∃ q, f = q + 1 := ⟨f - 1, by omega⟩
    have hin : ns_in (nI k) (ns_ln 3) := ns_inI (show k < 6 by omega) (by decide)
    have hm' : HmN σ (ns_pI (ns_pI τ (4 + k) 2 0) (4 + k) 3 0) H (k + 1) := by
      refine ⟨hm.1, fun c hc => by rw [pI_ne _ _ _ (by omega), pI_ne _ _ _ (by omega)]; exact hm.2.1 c hc, fun j i hj => ?_⟩
      by_cases e : j = k
      · subst e
        by_cases i3 : i = 3
        · subst i3; rw [pI_at, if_pos (by omega)]
        · by_cases i2 : i = 2
          · subst i2; rw [pI_st _ _ _ i3, pI_at, if_pos (by omega)]
          · rw [pI_st _ _ _ i3, pI_st _ _ _ i2, hm.2.2 j i hj, if_neg (by omega), if_neg (by omega)]
      · rw [pI_ne _ _ _ (by omega), pI_ne _ _ _ (by omega), hm.2.2 j i hj]
        by_cases q : j < k ∧ (i = 2 ∨ i = 3)
        · rw [if_pos q, if_pos (by omega)]
        · rw [if_neg q, if_neg (by omega)]
    obtain ⟨τ', e, hm''⟩ := ih (k + 1) f (ns_pI (ns_pI τ (4 + k) 2 0) (4 + k) 3 0) (by omega) (by omega) hm'
    refine ⟨τ', ?_, hm''⟩
    have v2 : τ.1 (4 + k) 2 = σ.1 (4 + k) 2 := by rw [hm.2.2 k 2 (by omega), if_neg (by omega)]
    rw [g_N_home_4]
    unfold g_N_home_35
    rw [hm.1, hR, rg_0_0, ev_drf, gk_1, hm.2.1 1 (by omega), hh, ite2_n (nI_ge (by omega) (by omega)), ev_drf, gk_1, rg_1_1, ev_drf, gk_3, grd_t hin, ns_ixI (by omega), rg_ml3 g1 g2 (show k < 6 by omega), ev_drf, grd_t (kd_m4 k (by omega)), v2]
    by_cases q : σ.1 (4 + k) 2 = 0
    · rw [ct_f (p := aw σ) (by simp [aw, q])] at e
      rw [ite2_p q, ev_bnd, ev_bnd, ev_bnd, ← nI_succ]
      exact e
    · rw [ct_t (p := aw σ) (by simp [aw, q])] at e
      rw [ite2_n q, ev_bnd, ev_bnd, ev_bnd, ev_bnd, ← nI_succ, ← nI_succ]
      exact e
def HmM (σ τ : ns_St) (k : Nat) : Prop := τ.2 = σ.2 ∧ (∀ c, c ≠ 72 → c ≠ 73 → τ.1 c = σ.1 c) ∧ (∀ i, τ.1 72 i = if i < k then 0 else σ.1 72 i) ∧ ∀ i, τ.1 73 i = if i < k then 0 else σ.1 73 i
def awM (σ : ns_St) (j : Nat) : Bool := decide (¬ σ.1 72 j ≤ 0)
theorem HmM.put {σ τ : ns_St} {k : Nat} (hm : HmM σ τ k) : HmM σ (ns_pI (ns_pI τ 72 k 0) 73 k 0) (k + 1) := by
  obtain ⟨m1, m2, m3, m4⟩ := hm
  refine ⟨m1, fun c p q => by rw [pI_ne _ _ _ q, pI_ne _ _ _ p]; exact m2 c p q, fun i => ?_, fun i => ?_⟩
  · rw [pI_ne _ _ _ (by decide)]
    by_cases e : i = k
    · subst e; rw [pI_at, if_pos (by omega)]
    · rw [pI_st _ _ _ e, m3 i]
      by_cases q : i < k
      · rw [if_pos q, if_pos (by omega)]
      · rw [if_neg q, if_neg (by omega)]
  · by_cases e : i = k
    · subst e; rw [pI_at, if_pos (by omega)]
    · rw [pI_st _ _ _ e, pI_ne _ _ _ (by decide), m4 i]
      by_cases q : i < k
      · rw [if_pos q, if_pos (by omega)]
      · rw [if_neg q, if_neg (by omega)]
theorem e_homeM {σ : ns_St} {g1 g2 : Option Nat} (hR : σ.2.2 = ns_rg g1 g2) {H : Nat} (hH : H ≤ 6) (hh : σ.1 65 5 = nI H) : ∀ (r k f : Nat) (τ : ns_St), r < f → k + r = H → HmM σ τ k → ∃ τ', g_M_home_4 f τ 65 (nI (fb_ct (awM σ) k)) (nI k) = some (nI (fb_ct (awM σ) H), τ') ∧ HmM σ τ' H := by
  intro r
  induction r with
  | zero =>
    intro k f τ hf hk hm
    obtain ⟨f, rfl⟩ : ∃ q, f = q + 1 := ⟨f - 1, by omega⟩
    have e : k = H := by omega
    subst e
    refine ⟨τ, ?_, hm⟩
    rw [g_M_home_4, hm.2.1 65 (by omega) (by omega), hh, ite2_p (nI_le (Nat.le_refl _) (by omega))]
  | succ r ih =>
    intro k f τ hf hk hm
    obtain ⟨f, rfl⟩ : ∃ q, f = q + 1 := ⟨f - 1, by omega⟩
    have i2 : ns_in (nI k) (ns_ln 72) := ns_inI (show k < 6 by omega) (by decide)
    have i3 : ns_in (nI k) (ns_ln 73) := ns_inI (show k < 6 by omega) (by decide)
    obtain ⟨τ', e, hm''⟩ := ih (k + 1) f (ns_pI (ns_pI τ 72 k 0) 73 k 0) (by omega) (by omega) hm.put
    refine ⟨τ', ?_, hm''⟩
    have v2 : τ.1 72 k = σ.1 72 k := by rw [hm.2.2.1 k, if_neg (by omega)]
    have h24 : ∀ y : Int32, g_M_home_24 (g_M_home_4 f) τ 65 y (nI k) = g_M_home_4 f (ns_pI (ns_pI τ 72 k 0) 73 k 0) 65 y (nI (k + 1)) := fun y => by
      unfold g_M_home_24
      rw [hm.1, hR, rg_65_8, ev_drf, gk_72, grd_t i2, ev_bnd, pI_R, hm.1, hR, rg_65_9, ev_drf, gk_73, grd_t i3, ev_bnd, ev_bnd, ns_ixI (by omega), ← nI_succ]
    rw [g_M_home_4, hm.2.1 65 (by omega) (by omega), hh, ite2_n (nI_ge (by omega) (by omega)), hm.1, hR, rg_65_8, ev_drf, gk_72, grd_t i2, ns_ixI (by omega), v2]
    by_cases q : σ.1 72 k ≤ 0
    · rw [ct_f (p := awM σ) (by simp [awM, q])] at e
      rw [ite2_p q, h24]
      exact e
    · rw [ct_t (p := awM σ) (decide_eq_true q)] at e
      rw [ite2_n q, ev_bnd, h24, ← nI_succ]
      exact e
theorem k_home {B : Nat} {σ : ns_St} (h : Inv B σ) : both B (g_N_home σ 0) (fun σ => g_M_home σ 65) := by
  obtain ⟨g1, g2, hR⟩ := h.1
  obtain ⟨E, H, a1, a2, a3, hG, a5, a6⟩ := h.2.1.get
  obtain ⟨f1, f2, f3, f4⟩ := h.2.1.fs
  have h60 := hG.2.2.1
  obtain ⟨τ, e, m1, m2, m3⟩ := e_homeN hR a3 a5 H 0 ns_F σ (by show H < 10000; omega) (by omega) ⟨rfl, fun _ _ => rfl, fun j i _ => by rw [if_neg (by omega)]⟩
  have i65 : τ.1 65 = σ.1 65 := m2 65 (by omega)
  have i72 : τ.1 72 = σ.1 72 := m2 72 (by omega)
  have i73 : τ.1 73 = σ.1 73 := m2 73 (by omega)
  obtain ⟨τ2, e2, n1, n2, n3, n4⟩ := e_homeM (σ := τ) (by rw [m1]; exact hR) a3 (by rw [i65]; exact a2) H 0 ns_F τ (by show H < 10000; omega) (by omega) ⟨rfl, fun _ _ _ => rfl, fun i => by rw [if_neg (by omega)], fun i => by rw [if_neg (by omega)]⟩
  have ec : fb_ct (awM τ) H = fb_ct (aw σ) H := fb_ct_cong (fun j hj => by
    obtain ⟨K, N, A, C, O, b1, b2, b3, b4, b5, b6, b7⟩ := a6 j hj
    unfold awM aw
    rw [i72, b5, b2.2.2.1]
    have hA : A ≤ 60 := by have := b1.2.2.2.1; omega
    apply decide_eq_decide.mpr
    by_cases q : A = 0
    · subst q; decide
    · exact ⟨fun _ => nI_ne0 (by omega) (by omega), fun _ => nI_nle (by omega) (by omega)⟩)
  refine ⟨nI (fb_ct (aw σ) H), τ, τ2, ?_, ?_, ?_⟩
  · unfold g_N_home
    rw [gk_0]
    exact e
  · show g_M_home τ 65 = _
    unfold g_M_home
    rw [gk_65, ← ec]
    exact e2
  · have c1 : ∀ c, ¬ (4 ≤ c ∧ c < 10) → c ≠ 72 → c ≠ 73 → τ2.1 c = σ.1 c := fun c p q r => by rw [n2 c q r]; exact m2 c (by omega)
    have c65 : τ2.1 65 = σ.1 65 := c1 65 (by omega) (by omega) (by omega)
    have c11 : τ2.1 1 = σ.1 1 := c1 1 (by omega) (by omega) (by omega)
    have cJ : τ2.2.1 = σ.2.1 := by rw [n1, m1]
    refine h.wld (Nat.le_refl _) ⟨g1, g2, by rw [n1, m1]; exact hR⟩ ?_ ⟨fun c hc => c1 c (by omega) (by omega) (by omega), fun c _ => by rw [cJ], by rw [c65], by rw [c65]⟩ (by rw [c65]; exact Nat.le_refl _)
    refine ⟨E, H, by rw [c65]; exact a1, by rw [c65]; exact a2, a3, ?_, by rw [c11]; exact a5, by rw [c11, c65]; exact f1, by rw [c65]; exact f2, by rw [c11, c65]; exact f3, by rw [c11, c65]; exact f4, ?_⟩
    · rw [c1 69 (by omega) (by omega) (by omega)]
      exact hG.cong (c1 2 (by omega) (by omega) (by omega)) (by rw [cJ])
    · intro j hj
      obtain ⟨K, N, A, C, O, b1, b2, b3, b4, b5, b6, b7⟩ := a6 j hj
      obtain ⟨u0, u1, u2, u3, u4, u5, u6, u7⟩ := b2
      have k4 : ∀ i, τ2.1 (1 + 3 + j) i = if i = 2 ∨ i = 3 then 0 else σ.1 (4 + j) i := fun i => by
        rw [show 1 + 3 + j = 4 + j by omega, n2 (4 + j) (by omega) (by omega), m3 j i hj]
        by_cases q : i = 2 ∨ i = 3
        · rw [if_pos ⟨hj, q⟩, if_pos q]
        · rw [if_neg (fun w => q w.2), if_neg q]
      refine ⟨K, N, 0, 0, O, ⟨b1.1, b1.2.1, b1.2.2.1, by omega, by omega, b1.2.2.2.2.2.1, fun _ => by have := b1.2.1; omega, b1.2.2.2.2.2.2.2⟩, ?_, by rw [c1 70 (by omega) (by omega) (by omega)]; exact b3, by rw [c1 71 (by omega) (by omega) (by omega)]; exact b4, by rw [n3 j, if_pos hj]; rfl, by rw [n4 j, if_pos hj]; rfl, by rw [c1 75 (by omega) (by omega) (by omega)]; exact b7⟩
      unfold MU
      rw [c1 74 (by omega) (by omega) (by omega), k4, k4, k4, k4, k4, k4, k4, k4]
      exact ⟨u0, u1, rfl, rfl, u4, u5, u6, u7⟩
/-! says -/
theorem gb_ab {σ : ns_St} {g E : Nat} {th : Nat → Int32} (hG : GR σ g th E) {A w : Nat} (hA : A ≤ E) (hw : w < 4) : ∀ p, p < 64 → gb (σ.2.1 g (w + 1) &&& ((-2 : Int64) <<< ((nI A).toInt64 &&& 63))) p = (decide (A < p ∧ p ≤ E) && (fun i => tb (th (A + 1 + i)) (nI (2 ^ w))) (p - A - 1)) := by
  intro p hp
  have h60 := hG.2.2.1
  rw [gb_and, gb_above A (by omega) p hp, hG.w hw hp]
  by_cases h1 : A < p
  · by_cases h2 : p ≤ E
    · rw [decide_eq_true h1, decide_eq_true h2, decide_eq_true (show A < p ∧ p ≤ E from ⟨h1, h2⟩)]
      show _ = (true && tb (th (A + 1 + (p - A - 1))) (nI (2 ^ w)))
      rw [show A + 1 + (p - A - 1) = p by omega]; simp
    · rw [decide_eq_false h2, decide_eq_false (show ¬ (A < p ∧ p ≤ E) from fun q => h2 q.2)]; rfl
  · rw [decide_eq_false h1, decide_eq_false (show ¬ (A < p ∧ p ≤ E) from fun q => h1 q.1)]; simp
theorem e_ahead12 {σ : ns_St} {g1 g2 : Option Nat} (hR : σ.2.2 = ns_rg g1 g2) {E A : Nat} (hE : σ.1 65 3 = nI E) (h60 : E ≤ 60) (hA : A ≤ E) (b : Int32) : ∀ (r k f : Nat), r < f → A + k + r = E → g_M_aheadOf_12 f σ 65 b (nI (fb_ct (fun i => tb (σ.1 69 (A + 1 + i)) b) k)) (nI (A + 1 + k)) = some (nI (fb_ct (fun i => tb (σ.1 69 (A + 1 + i)) b) (E - A)), σ) := by
  intro r
  induction r with
  | zero =>
    intro k f hf hk
    obtain ⟨f, rfl⟩ : ∃ q, f = q + 1 := ⟨f - 1, by omega⟩
    rw [g_M_aheadOf_12, hE, ite2_p (nI_lt (by omega) (by omega)), show E - A = k by omega]
  | succ r ih =>
    intro k f hf hk
    obtain ⟨f, rfl⟩ : ∃ q, f = q + 1 := ⟨f - 1, by omega⟩
    have e := ih (k + 1) f (by omega) (by omega)
    rw [g_M_aheadOf_12, hE, ite2_n (nI_nlt (by omega) (by omega)), e_isThere hR (by omega), ev_cl2]
    cases hb : tb (σ.1 69 (A + 1 + k)) b with
    | false =>
      rw [ct_f (p := fun i => tb (σ.1 69 (A + 1 + i)) b) hb] at e
      rw [ite2_z (by decide), ev_bnd, ← nI_succ]
      exact e
    | true =>
      rw [ct_t (p := fun i => tb (σ.1 69 (A + 1 + i)) b) hb] at e
      rw [ite2_y (Eq.refl true), ev_bnd, ev_bnd, ← nI_succ, ← nI_succ]
      exact e
theorem e_ahead {σ : ns_St} {g1 g2 : Option Nat} (hR : σ.2.2 = ns_rg g1 g2) {E A j : Nat} (hE : σ.1 65 3 = nI E) (h60 : E ≤ 60) (hA : A ≤ E) (hj : j < 6) (m2 : σ.1 72 j = nI A) (b : Int32) : g_M_aheadOf σ 65 (nI j) b = some (nI (fb_ct (fun i => tb (σ.1 69 (A + 1 + i)) b) (E - A)), σ) := by
  have i2 : ns_in (nI j) (ns_ln 72) := ns_inI (show j < 6 by omega) (by decide)
  unfold g_M_aheadOf
  rw [gk_65, hR, rg_65_8, ev_drf, gk_72, grd_t i2, ev_bnd, ns_ixI (by omega), m2, ← nI_succ]
  exact e_ahead12 hR hE h60 hA b (E - A) 0 ns_F (by show E - A < 10000; omega) (by omega)
theorem fst_ne {f : Nat → Bool} {v : Nat → Int32} (hv : ∀ i, v i ≠ -1) : ∀ {n : Nat} {i : Nat}, i < n → f i = true → fst f v n ≠ -1
  | 0, _, h, _ => absurd h (by omega)
  | n + 1, i, h, hf => by
    rw [fst]
    by_cases e : fst f v n = -1
    · rw [if_pos e]
      by_cases q : i = n
      · subst q; rw [if_pos hf]; exact hv i
      · exact absurd e (fst_ne hv (show i < n by omega) hf)
    · rw [if_neg e]; exact e
theorem e_says160 {σ : ns_St} {g1 g2 : Option Nat} (hR : σ.2.2 = ns_rg g1 g2) {E A : Nat} (hE : σ.1 65 3 = nI E) (h60 : E ≤ 60) (hA : A ≤ E) : ∀ (r k f : Nat), r < f → A + k + r = E → (∀ i, i < k → tb (σ.1 69 (A + 1 + i)) 2 = false) → g_M_says_160 f σ 65 (nI (A + 1 + k)) = some (fst (fun i => tb (σ.1 69 (A + 1 + i)) 2) (fun i => nI (A + i + 1)) (E - A), σ) := by
  intro r
  induction r with
  | zero =>
    intro k f hf hk hz
    obtain ⟨f, rfl⟩ : ∃ q, f = q + 1 := ⟨f - 1, by omega⟩
    rw [g_M_says_160, hE, ite2_p (nI_lt (by omega) (by omega)), show E - A = k by omega, fst_no hz]
  | succ r ih =>
    intro k f hf hk hz
    obtain ⟨f, rfl⟩ : ∃ q, f = q + 1 := ⟨f - 1, by omega⟩
    rw [g_M_says_160, hE, ite2_n (nI_nlt (by omega) (by omega)), e_isThere hR (by omega), ev_cl2]
    cases hb : tb (σ.1 69 (A + 1 + k)) 2 with
    | false =>
      rw [ite2_z (by decide), ev_bnd, ← nI_succ]
      exact ih (k + 1) f (by omega) (by omega) (fun i hi => by
        by_cases e : i = k
        · subst e; exact hb
        · exact hz i (by omega))
    | true =>
      rw [ite2_y (Eq.refl true), fst_is (f := fun i => tb (σ.1 69 (A + 1 + i)) 2) (v := fun i => nI (A + i + 1)) hb hz (nI_nm1 (by omega)) (show k < E - A by omega), show A + 1 + k = A + k + 1 by omega]
theorem k_says {B : Nat} {σ : ns_St} (h : Inv B σ) (x y : Int32) : both B (g_N_says σ 0 x y) (fun σ => g_M_says σ 65 x y) := by
  obtain ⟨g1, g2, hR⟩ := h.1
  obtain ⟨E, H, a1, a2, a3, hG, a5, a6⟩ := h.2.1.get
  have h60 := hG.2.2.1
  rcases sh_cases x with ⟨s, hs, rfl, hx⟩ | hx
  · obtain ⟨b1, b2, b3, b4, b5⟩ := h.2.2.2.1 s hs
    have i66 : ns_in (nI s) (ns_ln 66) := ns_inI hs (by decide)
    have ixs : ns_ix (nI s) = s := ns_ixI (by omega)
    by_cases hy : (0 : Int32) ≤ y ∧ y ≤ 5
    · obtain ⟨k, hk, rfl⟩ := ns_rng (n := 5) (by decide) hy
      have hN : g_N_says σ 0 (nI s) (nI k) = ite2 (σ.1 66 s = -1) (cl2 (g_N_refuse σ 0 (-4 : Int32)) fun r σ' => some (r, σ')) (cl2 (g_World_muleAt σ 1 (σ.1 66 s - 10)) fun r38 σ37 => onul r38 (cl2 (g_N_refuse σ37 0 (-3 : Int32)) fun r41 σ40 => some (r41, σ40)) (fun b39 => grd (ns_kd b39 = 2) <| cl2 (g_N_isUnder σ37 (σ37.1 b39 0) (nI k)) fun r43 σ42 => ite2 (r43 = 0) (cl2 (g_N_refuse σ42 0 (-3 : Int32)) fun r48 σ47 => some (r48, σ47)) (cl2 (g_N_saidAs σ42 0 b39 (nI k)) fun r46 σ45 => some (r46, σ45)))) := by
        unfold g_N_says
        simp only [gk_0, e_shelfAt hR hs hx, ev_cl2, ev_ons, grd_t (kd_sh s hs), e_isWithin, ite2_y hy, hR, rg_0_0, ev_drf, gk_1]
        rw [b1]
      have hM : ∀ τ : ns_St, τ.2.2 = ns_rg g1 g2 → τ.1 66 = σ.1 66 → g_M_says τ 65 (nI s) (nI k) = ite2 (yn (0 ≤ σ.1 66 s ∧ σ.1 66 s ≤ 4) = 0) (ite2 (σ.1 66 s - 10 < 0) (g_M_says_68 τ 65 (nI k) (σ.1 66 s - 10)) (grd (ns_in (σ.1 66 s - 10) (ns_ln 70)) <| cl2 (g_M_isUnder τ (τ.1 70 (ns_ix (σ.1 66 s - 10))) (nI k)) fun r99 σ98 => ite2 (r99 = 0) (cl2 (g_M_no σ98 65 (-3 : Int32)) fun r102 σ101 => some (r102, σ101)) (g_M_says_68 σ98 65 (nI k) (σ.1 66 s - 10)))) (cl2 (g_M_no τ 65 (-3 : Int32)) fun r σ' => some (r, σ')) := fun τ t1 t2 => by
        unfold g_M_says
        simp only [gk_65, e_within, ev_cl2, ite2_y hx, ite2_y hy, t1, rg_65_0, rg_65_6, ev_drf, gk_66, gk_70, grd_t i66, ixs, e_isRow t1 hs, ev_bnd, t2]
      have f66 : ∀ z, (rfN σ z).1 66 = σ.1 66 := fun z => by rw [rfN, pI_ne _ _ _ (by decide)]
      rcases hd_row (h.hd hs) with ⟨t1, t2, z, hz, t3⟩ | ⟨t1, t2, t3⟩ | ⟨t1, t2, j0, hj0, t30⟩
      · refine both.bad h hR (z := 1) (by decide) (c := -3) (by decide) (by decide) ?_ ?_
        · have hneg : σ.1 66 s - 10 < 0 := by rw [t3]; exact pk_sneg (b := 10) (by decide) (by omega)
          rw [hN, ite2_n (by rw [t3]; exact nI_nm1 (by omega)), e_muleAtN a5 (Or.inl hneg), ev_cl2, ev_onn]
        · show g_M_says (rfN σ 1) 65 (nI s) (nI k) = _
          rw [hM (rfN σ 1) hR (f66 1), ite2_y t2]
      · refine both.bad h hR (z := 2) (by decide) (c := -4) (by decide) (by decide) ?_ ?_
        · rw [hN, ite2_p t2]
        · show g_M_says (rfN σ 2) 65 (nI s) (nI k) = _
          rw [hM (rfN σ 2) hR (f66 2), ite2_z t3, ite2_p (by rw [t2]; decide)]
          unfold g_M_says_68
          rw [ite2_n (by rw [t2]; decide)]
      · -- a MULE
        have hmj : ∃ j, σ.1 66 s = nI (10 + j) ∧ j < H := by
          rcases b4 with q | ⟨z, hz, q⟩ | ⟨j, q1, q2⟩
          · rw [t30] at q; exact absurd q (nI_nm1 (by omega))
          · rw [t30, nI_eq (by omega) (by omega)] at q; omega
          · rw [a2, nI_clamp (by omega)] at q2; exact ⟨j, q1, q2⟩
        obtain ⟨j, t3, hj⟩ := hmj
        have hj6 : j < 6 := by omega
        have em : σ.1 66 s - 10 = nI j := by rw [t3, show (10 : Int32) = nI 10 from rfl, pk_sub (by omega), show 10 + j - 10 = j by omega]
        obtain ⟨K, N, A, C, O, c1, c2, c3, c4, c5, c6, c7⟩ := a6 j hj
        obtain ⟨u0, u1, u2, u3, u4, u5, u6, u7⟩ := c2
        have hA : A ≤ E := c1.2.2.2.1
        have i70 : ns_in (nI j) (ns_ln 70) := ns_inI hj6 (by decide)
        have i71 : ns_in (nI j) (ns_ln 71) := ns_inI hj6 (by decide)
        have i72 : ns_in (nI j) (ns_ln 72) := ns_inI hj6 (by decide)
        have hN2 : g_N_says σ 0 (nI s) (nI k) = ite2 (yn (und K k = true) = 0) (cl2 (g_N_refuse σ 0 (-3 : Int32)) fun r σ' => some (r, σ')) (cl2 (g_N_saidAs σ 0 (4 + j) (nI k)) fun r46 σ45 => some (r46, σ45)) := by
          rw [hN, ite2_n (by rw [t3]; exact nI_nm1 (by omega)), em, e_muleAt hR a3 a5 hj, ev_cl2, ev_ons, grd_t (kd_m4 j hj6), u0, e_isUnder c1.1 hk, ev_cl2]
        have hM2 : ∀ τ : ns_St, τ.2.2 = ns_rg g1 g2 → τ.1 66 = σ.1 66 → τ.1 70 = σ.1 70 → g_M_says τ 65 (nI s) (nI k) = ite2 (yn (und K k = true) = 0) (cl2 (g_M_no τ 65 (-3 : Int32)) fun r σ' => some (r, σ')) (g_M_says_68 τ 65 (nI k) (nI j)) := fun τ q1 q2 q3 => by
          rw [hM τ q1 q2, ite2_z t2, em, ite2_n (nI_pos (by omega)), grd_t i70, q3, ns_ixI (by omega), c3, e_isUnderM c1.1 hk, ev_cl2]
        by_cases hu : und K k = true
        · have fin : ∀ v : Int32, g_N_saidAs σ 0 (4 + j) (nI k) = some (v, σ) → g_M_says_68 σ 65 (nI k) (nI j) = some (v, σ) → both B (g_N_says σ 0 (nI s) (nI k)) (fun σ => g_M_says σ 65 (nI s) (nI k)) := fun v p q => by
            refine ⟨v, σ, σ, ?_, ?_, h⟩
            · rw [hN2, ite2_y hu, p, ev_cl2]
            · show g_M_says σ 65 (nI s) (nI k) = _
              rw [hM2 σ hR rfl rfl, ite2_y hu, q]
          have sN : g_N_saidAs σ 0 (4 + j) (nI k) = ite2 (nI k = 1) (some (σ.1 (4 + j) 6, σ)) (ite2 (nI k = 2) (some (nI (fb_ct (gb (σ.2.1 2 1 &&& ((-2 : Int64) <<< ((nI A).toInt64 &&& 63)))) 64), σ)) (ite2 (nI k = 3) (some (nI (fb_ct (gb (σ.2.1 2 3 &&& ((-2 : Int64) <<< ((nI A).toInt64 &&& 63)))) 64), σ)) (ite2 (nI k = 4) (some (nI (fb_ct (gb (σ.2.1 2 2 &&& ((-2 : Int64) <<< ((nI A).toInt64 &&& 63)))) 64), σ)) (ite2 (nI k = 5) (cl2 (g_N_firstOf σ (σ.2.1 2 2 &&& ((-2 : Int64) <<< ((nI A).toInt64 &&& 63)))) fun r46 σ45 => some (r46, σ45)) (some (σ.1 (4 + j) 1, σ)))))) := by
            unfold g_N_saidAs g_N_above
            simp only [gk_0, grd_t (kd_m4 j hj6), hR, rg_0_0, rg_1_0, ev_drf, gk_1, gk_2, ev_cl2, e_bitCount]
            rw [u2]
          have sM : g_M_says_68 σ 65 (nI k) (nI j) = ite2 (nI k = 0) (some (nI N, σ)) (ite2 (nI k = 1) (some (nI (rt K O), σ)) (ite2 (nI k = 2) (some (nI (fb_ct (fun i => tb (σ.1 69 (A + 1 + i)) 1) (E - A)), σ)) (ite2 (nI k = 3) (some (nI (fb_ct (fun i => tb (σ.1 69 (A + 1 + i)) 4) (E - A)), σ)) (ite2 (nI k = 4) (some (nI (fb_ct (fun i => tb (σ.1 69 (A + 1 + i)) 2) (E - A)), σ)) (g_M_says_160 ns_F σ 65 (nI (A + 1))))))) := by
            unfold g_M_says_68
            rw [ite2_p (nI_pos' (by omega))]
            simp only [hR, rg_65_7, rg_65_8, ev_drf, gk_71, gk_72, grd_t i71, grd_t i72, e_rest hR hj6 c1.1 c3 c7, e_ahead hR a1 h60 hA hj6 c5, ev_cl2, ev_bnd]
            rw [ns_ixI (by omega), c4, c5, ← nI_succ]
          have w1 := ct_win (g := gb (σ.2.1 2 1 &&& ((-2 : Int64) <<< ((nI A).toInt64 &&& 63)))) (f := fun i => tb (σ.1 69 (A + 1 + i)) 1) hA h60 (gb_ab (w := 0) hG hA (by decide))
          have w2 := ct_win (g := gb (σ.2.1 2 2 &&& ((-2 : Int64) <<< ((nI A).toInt64 &&& 63)))) (f := fun i => tb (σ.1 69 (A + 1 + i)) 2) hA h60 (gb_ab (w := 1) hG hA (by decide))
          have w3 := ct_win (g := gb (σ.2.1 2 3 &&& ((-2 : Int64) <<< ((nI A).toInt64 &&& 63)))) (f := fun i => tb (σ.1 69 (A + 1 + i)) 4) hA h60 (gb_ab (w := 2) hG hA (by decide))
          rcases six hk with rfl | rfl | rfl | rfl | rfl | rfl
          · refine fin (nI N) ?_ ?_
            · rw [sN, ite2_n (by decide), ite2_n (by decide), ite2_n (by decide), ite2_n (by decide), ite2_n (by decide), u1]
            · rw [sM, ite2_p (by decide)]
          · refine fin (nI (rt K O)) ?_ ?_
            · rw [sN, ite2_p (by decide), u6]; rfl
            · rw [sM, ite2_n (by decide), ite2_p (by decide)]
          · refine fin (nI (fb_ct (fun i => tb (σ.1 69 (A + 1 + i)) 1) (E - A))) ?_ ?_
            · rw [sN, ite2_n (by decide), ite2_p (by decide), w1]
            · rw [sM, ite2_n (by decide), ite2_n (by decide), ite2_p (by decide)]
          · refine fin (nI (fb_ct (fun i => tb (σ.1 69 (A + 1 + i)) 4) (E - A))) ?_ ?_
            · rw [sN, ite2_n (by decide), ite2_n (by decide), ite2_p (by decide), w3]
            · rw [sM, ite2_n (by decide), ite2_n (by decide), ite2_n (by decide), ite2_p (by decide)]
          · refine fin (nI (fb_ct (fun i => tb (σ.1 69 (A + 1 + i)) 2) (E - A))) ?_ ?_
            · rw [sN, ite2_n (by decide), ite2_n (by decide), ite2_n (by decide), ite2_p (by decide), w2]
            · rw [sM, ite2_n (by decide), ite2_n (by decide), ite2_n (by decide), ite2_n (by decide), ite2_p (by decide)]
          · refine fin (fst (fun i => tb (σ.1 69 (A + 1 + i)) 2) (fun i => nI (A + i + 1)) (E - A)) ?_ ?_
            · rw [sN, ite2_n (by decide), ite2_n (by decide), ite2_n (by decide), ite2_n (by decide), ite2_p (by decide), e_fst (A := A) (E := E) (f := fun i => tb (σ.1 69 (A + 1 + i)) 2) h60 (gb_ab (w := 1) hG hA (by decide)), ev_cl2]
            · rw [sM, ite2_n (by decide), ite2_n (by decide), ite2_n (by decide), ite2_n (by decide), ite2_n (by decide)]
              exact e_says160 hR a1 h60 hA (E - A) 0 ns_F (by show E - A < 10000; omega) (by omega) (fun i hi => by omega)
        · refine both.bad h hR (z := 1) (by decide) (c := -3) (by decide) (by decide) ?_ ?_
          · rw [hN2, ite2_z hu]
          · show g_M_says (rfN σ 1) 65 (nI s) (nI k) = _
            rw [hM2 (rfN σ 1) hR (f66 1) (by rw [rfN, pI_ne _ _ _ (by decide)]), ite2_z hu]
    · refine both.bad h hR (z := 0) (by decide) (c := -2) (by decide) (by decide) ?_ ?_
      · unfold g_N_says
        rw [gk_0, e_shelfAt hR hs hx, ev_cl2, ev_ons, grd_t (kd_sh s hs), e_isWithin, ev_cl2, ite2_z hy]
      · show g_M_says (rfN σ 0) 65 (nI s) y = _
        unfold g_M_says
        rw [gk_65, e_within, ev_cl2, ite2_y hx, e_within, ev_cl2, ite2_z hy]
  · refine both.bad h hR (z := 0) (by decide) (c := -2) (by decide) (by decide) ?_ ?_
    · unfold g_N_says
      rw [gk_0, e_shelfAtN hx, ev_cl2, ev_onn]
    · show g_M_says (rfN σ 0) 65 x y = _
      unfold g_M_says
      rw [gk_65, e_within, ev_cl2, ite2_z hx]
