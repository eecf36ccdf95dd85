/-! status -/
theorem ct_E {g f : Nat → Bool} {E : Nat} (hE : E ≤ 60) (h : ∀ p, p < 64 → g p = (decide (p ≤ E) && f p)) : fb_ct g 64 = fb_ct f (E + 1) := by
  have e1 : fb_ct g 64 = fb_ct g (E + 1) + fb_ct (fun k => g (E + 1 + k)) (63 - E) := by
    rw [← fb_ct_split, show E + 1 + (63 - E) = 64 by omega]
  have z2 : fb_ct (fun k => g (E + 1 + k)) (63 - E) = 0 := fb_ct_zero.mpr (fun k hk => by
    show g (E + 1 + k) = false
    rw [h _ (by omega), decide_eq_false (by omega)]; rfl)
  rw [e1, z2, Nat.add_zero]
  exact fb_ct_cong (fun k hk => by rw [h k (by omega), decide_eq_true (by omega), Bool.true_and])
theorem e_those4 {σ : ns_St} {g1 g2 : Option Nat} (hR : σ.2.2 = ns_rg g1 g2) {E : Nat} (hE : σ.1 65 3 = nI E) (h60 : E ≤ 60) (b : Int32) : ∀ (r p f : Nat), r < f → p + r = E + 1 → g_M_those_4 f σ 65 b (nI (fb_ct (fun p => tb (σ.1 69 p) b) p)) (nI p) = some (nI (fb_ct (fun p => tb (σ.1 69 p) b) (E + 1)), σ) := by
  intro r
  induction r with
  | zero =>
    intro p f hf hp
    obtain ⟨f, rfl⟩ : ∃ q, f = q + 1 := ⟨f - 1, by omega⟩
    rw [g_M_those_4, hE, ite2_p (nI_lt (by omega) (by omega)), show p = E + 1 by omega]
  | succ r ih =>
    intro p f hf hp
    obtain ⟨f, rfl⟩ : ∃ q, f = q + 1 := ⟨f - 1, by omega⟩
    have e := ih (p + 1) f (by omega) (by omega)
    rw [g_M_those_4, hE, ite2_n (nI_nlt (by omega) (by omega)), e_isThere hR (by omega), ev_cl2]
    cases hb : tb (σ.1 69 p) b with
    | false =>
      rw [ct_f (p := fun p => tb (σ.1 69 p) b) hb] at e
      rw [ite2_z (by decide), ev_bnd, ← nI_succ]
      exact e
    | true =>
      rw [ct_t (p := fun p => tb (σ.1 69 p) b) hb] at e
      rw [ite2_y (Eq.refl true), ev_bnd, ev_bnd, ← nI_succ, ← nI_succ]
      exact e
theorem e_those {σ : ns_St} {g1 g2 : Option Nat} (hR : σ.2.2 = ns_rg g1 g2) {E : Nat} (hE : σ.1 65 3 = nI E) (h60 : E ≤ 60) (b : Int32) : g_M_those σ 65 b = some (nI (fb_ct (fun p => tb (σ.1 69 p) b) (E + 1)), σ) := by
  unfold g_M_those
  rw [gk_65]
  exact e_those4 hR hE h60 b (E + 1) 0 ns_F (by show E + 1 < 10000; omega) (by omega)
def shu (σ : ns_St) (s : Nat) : Bool := decide (σ.1 66 s ≠ -1)
theorem e_siu4 {σ : ns_St} {g1 g2 : Option Nat} (hR : σ.2.2 = ns_rg g1 g2) (hs : ∀ s, s < 8 → σ.1 (49 + 2 * s) 0 = σ.1 66 s) : ∀ (r p f : Nat), r < f → p + r = 8 → g_N_shelvesInUse_4 f σ 0 (nI (fb_ct (shu σ) p)) (nI p) = some (nI (fb_ct (shu σ) 8), σ) := by
  intro r
  induction r with
  | zero =>
    intro p f hf hp
    obtain ⟨f, rfl⟩ : ∃ q, f = q + 1 := ⟨f - 1, by omega⟩
    rw [g_N_shelvesInUse_4, ite2_p (show (8 : Int32) ≤ nI p from nI_le (a := 8) (by omega) (by omega)), show p = 8 by omega]
  | succ r ih =>
    intro p f hf hp
    obtain ⟨f, rfl⟩ : ∃ q, f = q + 1 := ⟨f - 1, by omega⟩
    have e := ih (p + 1) f (by omega) (by omega)
    have hin : ns_in (nI p) (ns_ln 28) := ns_inI (show p < 8 by omega) (by decide)
    rw [g_N_shelvesInUse_4, ite2_n (show ¬ (8 : Int32) ≤ nI p from nI_ge (b := 8) (by omega) (by decide)), hR, rg_0_3, ev_drf, gk_28, grd_t hin, ns_ixI (by omega), rg_28 g1 g2 (show p < 8 by omega), ev_drf, grd_t (kd_sh p (by omega)), hs p (by omega)]
    by_cases hb : σ.1 66 p = -1
    · rw [ct_f (p := shu σ) (by simp [shu, hb])] at e
      rw [ite2_p hb, ev_bnd, ← nI_succ]
      exact e
    · rw [ct_t (p := shu σ) (by simp [shu, hb])] at e
      rw [ite2_n hb, ev_bnd, ev_bnd, ← nI_succ, ← nI_succ]
      exact e
theorem e_st117 {σ : ns_St} {g1 g2 : Option Nat} (hR : σ.2.2 = ns_rg g1 g2) : ∀ (r p f : Nat), r < f → p + r = 8 → g_M_status_117 f σ 65 (nI (fb_ct (shu σ) p)) (nI p) = some (nI (fb_ct (shu σ) 8), σ) := by
  intro r
  induction r with
  | zero =>
    intro p f hf hp
    obtain ⟨f, rfl⟩ : ∃ q, f = q + 1 := ⟨f - 1, by omega⟩
    rw [g_M_status_117, ite2_p (show (8 : Int32) ≤ nI p from nI_le (a := 8) (by omega) (by omega)), show p = 8 by omega]
  | succ r ih =>
    intro p f hf hp
    obtain ⟨f, rfl⟩ : ∃ q, f = q + 1 := ⟨f - 1, by omega⟩
    have e := ih (p + 1) f (by omega) (by omega)
    have hin : ns_in (nI p) (ns_ln 66) := ns_inI (show p < 8 by omega) (by decide)
    rw [g_M_status_117, ite2_n (show ¬ (8 : Int32) ≤ nI p from nI_ge (b := 8) (by omega) (by decide)), hR, rg_65_0, ev_drf, gk_66, grd_t hin, ns_ixI (by omega)]
    by_cases hb : σ.1 66 p = -1
    · rw [ct_f (p := shu σ) (by simp [shu, hb])] at e
      rw [ite2_p hb, ev_bnd, ← nI_succ]
      exact e
    · rw [ct_t (p := shu σ) (by simp [shu, hb])] at e
      rw [ite2_n hb, ev_bnd, ev_bnd, ← nI_succ, ← nI_succ]
      exact e
theorem k_status {B : Nat} {σ : ns_St} (h : Inv B σ) (x : Int32) : both B (g_N_status σ 0 x) (fun σ => g_M_status σ 65 x) := by
  obtain ⟨g1, g2, hR⟩ := h.1
  obtain ⟨E, H, a1, a2, a3, hG, a5, a6⟩ := h.2.1.get
  obtain ⟨f1, f2, f3, f4⟩ := h.2.1.fs
  have h60 := hG.2.2.1
  obtain ⟨tz, t0, t1, t2, t3⟩ := h.2.2.2.2.1
  have cnt : ∀ w, w < 4 → fb_ct (gb (σ.2.1 2 (w + 1))) 64 = fb_ct (fun p => tb (σ.1 69 p) (nI (2 ^ w))) (E + 1) := fun w hw => ct_E h60 (fun p hp => hG.w hw hp)
  have fin : ∀ v : Int32, g_N_status σ 0 x = some (v, σ) → g_M_status σ 65 x = some (v, σ) → both B (g_N_status σ 0 x) (fun σ => g_M_status σ 65 x) := fun v p q => ⟨v, σ, σ, p, q, h⟩
  by_cases y0 : x = 0
  · subst y0
    refine fin (nI E) ?_ ?_
    · unfold g_N_status
      rw [gk_0, ite2_p (by decide)]
      rw [hR, rg_0_0, ev_drf, gk_1, rg_1_0, ev_drf, gk_2, hG.1]
    · unfold g_M_status
      rw [gk_65, ite2_p (by decide)]
      rw [a1]
  by_cases y1 : x = 1
  · subst y1
    refine fin (nI H) ?_ ?_
    · unfold g_N_status
      rw [gk_0, ite2_n (by decide), ite2_p (by decide)]
      rw [hR, rg_0_0, ev_drf, gk_1, a5]
    · unfold g_M_status
      rw [gk_65, ite2_n (by decide), ite2_p (by decide)]
      rw [a2]
  by_cases y2 : x = 2
  · subst y2
    refine fin (nI (fb_ct (fun p => tb (σ.1 69 p) (nI (2 ^ 0))) (E + 1))) ?_ ?_
    · unfold g_N_status
      rw [gk_0, ite2_n (by decide), ite2_n (by decide), ite2_p (by decide)]
      rw [hR, rg_0_0, ev_drf, gk_1, rg_1_0, ev_drf, gk_2, show ((2 : Int32) - 2) = nI 0 by decide, e_allOf kd_2 (by decide), ev_cl2, e_bitCount, ev_cl2, cnt 0 (by decide)]
    · unfold g_M_status
      rw [gk_65, ite2_n (by decide), ite2_n (by decide), ite2_p (by decide)]
      rw [e_those hR a1 h60, ev_cl2]; rfl
  by_cases y3 : x = 3
  · subst y3
    refine fin (nI (fb_ct (fun p => tb (σ.1 69 p) (nI (2 ^ 1))) (E + 1))) ?_ ?_
    · unfold g_N_status
      rw [gk_0, ite2_n (by decide), ite2_n (by decide), ite2_n (by decide), ite2_p (by decide)]
      rw [hR, rg_0_0, ev_drf, gk_1, rg_1_0, ev_drf, gk_2, show ((3 : Int32) - 2) = nI 1 by decide, e_allOf kd_2 (by decide), ev_cl2, e_bitCount, ev_cl2, cnt 1 (by decide)]
    · unfold g_M_status
      rw [gk_65, ite2_n (by decide), ite2_n (by decide), ite2_n (by decide), ite2_p (by decide)]
      rw [e_those hR a1 h60, ev_cl2]; rfl
  by_cases y4 : x = 4
  · subst y4
    refine fin (nI (fb_ct (fun p => tb (σ.1 69 p) (nI (2 ^ 2))) (E + 1))) ?_ ?_
    · unfold g_N_status
      rw [gk_0, ite2_n (by decide), ite2_n (by decide), ite2_n (by decide), ite2_n (by decide), ite2_p (by decide)]
      rw [hR, rg_0_0, ev_drf, gk_1, rg_1_0, ev_drf, gk_2, show ((4 : Int32) - 2) = nI 2 by decide, e_allOf kd_2 (by decide), ev_cl2, e_bitCount, ev_cl2, cnt 2 (by decide)]
    · unfold g_M_status
      rw [gk_65, ite2_n (by decide), ite2_n (by decide), ite2_n (by decide), ite2_n (by decide), ite2_p (by decide)]
      rw [e_those hR a1 h60, ev_cl2]; rfl
  by_cases y5 : x = 5
  · subst y5
    refine fin (nI (fb_ct (fun p => tb (σ.1 69 p) (nI (2 ^ 3))) (E + 1))) ?_ ?_
    · unfold g_N_status
      rw [gk_0, ite2_n (by decide), ite2_n (by decide), ite2_n (by decide), ite2_n (by decide), ite2_n (by decide), ite2_p (by decide)]
      rw [hR, rg_0_0, ev_drf, gk_1, rg_1_0, ev_drf, gk_2, show ((5 : Int32) - 2) = nI 3 by decide, e_allOf kd_2 (by decide), ev_cl2, e_bitCount, ev_cl2, cnt 3 (by decide)]
    · unfold g_M_status
      rw [gk_65, ite2_n (by decide), ite2_n (by decide), ite2_n (by decide), ite2_n (by decide), ite2_n (by decide), ite2_p (by decide)]
      rw [e_those hR a1 h60, ev_cl2]; rfl
  by_cases y6 : x = 6
  · subst y6
    refine fin (σ.1 65 12) ?_ ?_
    · unfold g_N_status
      rw [gk_0, ite2_n (by decide), ite2_n (by decide), ite2_n (by decide), ite2_n (by decide), ite2_n (by decide), ite2_n (by decide), ite2_p (by decide)]
      rw [hR, rg_0_0, ev_drf, gk_1, f1]
    · unfold g_M_status
      rw [gk_65, ite2_n (by decide), ite2_n (by decide), ite2_n (by decide), ite2_n (by decide), ite2_n (by decide), ite2_n (by decide), ite2_p (by decide)]
      skip
  by_cases y7 : x = 7
  · subst y7
    refine fin (σ.1 65 13) ?_ ?_
    · unfold g_N_status
      rw [gk_0, ite2_n (by decide), ite2_n (by decide), ite2_n (by decide), ite2_n (by decide), ite2_n (by decide), ite2_n (by decide), ite2_n (by decide), ite2_p (by decide)]
      rw [hR, rg_0_0, ev_drf, gk_1, f3]
    · unfold g_M_status
      rw [gk_65, ite2_n (by decide), ite2_n (by decide), ite2_n (by decide), ite2_n (by decide), ite2_n (by decide), ite2_n (by decide), ite2_n (by decide), ite2_p (by decide)]
      skip
  by_cases y8 : x = 8
  · subst y8
    refine fin (nI tz) ?_ ?_
    · unfold g_N_status
      rw [gk_0, ite2_n (by decide), ite2_n (by decide), ite2_n (by decide), ite2_n (by decide), ite2_n (by decide), ite2_n (by decide), ite2_n (by decide), ite2_n (by decide), ite2_p (by decide)]
      rw [hR, rg_0_4, ev_drf, gk_29, t1]
    · unfold g_M_status
      rw [gk_65, ite2_n (by decide), ite2_n (by decide), ite2_n (by decide), ite2_n (by decide), ite2_n (by decide), ite2_n (by decide), ite2_n (by decide), ite2_n (by decide), ite2_p (by decide)]
      rw [t2]
  by_cases y9 : x = 9
  · subst y9
    refine fin (σ.1 65 14) ?_ ?_
    · unfold g_N_status
      rw [gk_0, ite2_n (by decide), ite2_n (by decide), ite2_n (by decide), ite2_n (by decide), ite2_n (by decide), ite2_n (by decide), ite2_n (by decide), ite2_n (by decide), ite2_n (by decide), ite2_p (by decide)]
      rw [hR, rg_0_0, ev_drf, gk_1, f4]
    · unfold g_M_status
      rw [gk_65, ite2_n (by decide), ite2_n (by decide), ite2_n (by decide), ite2_n (by decide), ite2_n (by decide), ite2_n (by decide), ite2_n (by decide), ite2_n (by decide), ite2_n (by decide), ite2_p (by decide)]
      skip
  by_cases y10 : x = 10
  · subst y10
    refine fin (nI (fb_ct (shu σ) 8)) ?_ ?_
    · unfold g_N_status
      rw [gk_0, ite2_n (by decide), ite2_n (by decide), ite2_n (by decide), ite2_n (by decide), ite2_n (by decide), ite2_n (by decide), ite2_n (by decide), ite2_n (by decide), ite2_n (by decide), ite2_n (by decide), ite2_p (by decide)]
      unfold g_N_shelvesInUse
      rw [gk_0, show g_N_shelvesInUse_4 ns_F σ 0 0 0 = _ from e_siu4 hR (fun s hs => (h.2.2.2.1 s hs).1) 8 0 ns_F (by decide) (by omega), ev_cl2]
    · unfold g_M_status
      rw [gk_65, ite2_n (by decide), ite2_n (by decide), ite2_n (by decide), ite2_n (by decide), ite2_n (by decide), ite2_n (by decide), ite2_n (by decide), ite2_n (by decide), ite2_n (by decide), ite2_n (by decide), ite2_p (by decide)]
      exact e_st117 hR 8 0 ns_F (by decide) (by omega)
  by_cases hx : 12 ≤ x ∧ x ≤ 16
  · obtain ⟨n, hn, rfl⟩ := ns_rng (x := x) (n := 16) (by decide) ⟨Int32.le_trans (by decide) hx.1, hx.2⟩
    have hn1 : 12 ≤ n := (nI_leI (a := 12) (by decide) (by omega)).mp hx.1
    have i1 : ns_in (nI (n - 12)) (ns_ln 48) := ns_inI (show n - 12 < 5 by omega) (by decide)
    have i2 : ns_in (nI (n - 10)) (ns_ln 77) := ns_inI (show n - 10 < 7 by omega) (by decide)
    have e12 : nI n - (12 : Int32) = nI (n - 12) := pk_sub (b := 12) hn1
    have e10 : nI n - (10 : Int32) = nI (n - 10) := pk_sub (b := 10) (by omega)
    refine fin (σ.1 48 (n - 12)) ?_ ?_
    · unfold g_N_status
      rw [gk_0, ite2_n y0, ite2_n y1, ite2_n y2, ite2_n y3, ite2_n y4, ite2_n y5, ite2_n y6, ite2_n y7, ite2_n y8, ite2_n y9, ite2_n y10, e_isWithin, ev_cl2, ite2_y hx, hR, rg_0_10, ev_drf, gk_48, e12, grd_t i1, ns_ixI (by omega)]
    · unfold g_M_status
      rw [gk_65, ite2_n y0, ite2_n y1, ite2_n y2, ite2_n y3, ite2_n y4, ite2_n y5, ite2_n y6, ite2_n y7, ite2_n y8, ite2_n y9, ite2_n y10, e_within, ev_cl2, ite2_y hx, hR, rg_65_21, ev_drf, gk_77, e10, grd_t i2, ns_ixI (by omega), h.2.2.2.2.2 (n - 12) (by omega), show n - 12 + 2 = n - 10 by omega]
  · refine fin (-1) ?_ ?_
    · unfold g_N_status
      rw [gk_0, ite2_n y0, ite2_n y1, ite2_n y2, ite2_n y3, ite2_n y4, ite2_n y5, ite2_n y6, ite2_n y7, ite2_n y8, ite2_n y9, ite2_n y10, e_isWithin, ev_cl2, ite2_z hx]
    · unfold g_M_status
      rw [gk_65, ite2_n y0, ite2_n y1, ite2_n y2, ite2_n y3, ite2_n y4, ite2_n y5, ite2_n y6, ite2_n y7, ite2_n y8, ite2_n y9, ite2_n y10, e_within, ev_cl2, ite2_z hx]
