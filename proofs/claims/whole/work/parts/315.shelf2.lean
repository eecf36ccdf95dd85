/-! set, copy, show -/
def lowb (z : Nat) (v : Int64) : Int64 := if z = 0 then v.toInt32.toInt8.toInt32.toInt64 else if z = 1 then v.toInt32.toInt16.toInt32.toInt64 else if z = 2 then v.toInt32.toInt64 else if z = 4 then (if lg_cmp v 0 = 0 then 0 else 1) else v
theorem e_lowestBits {σ : ns_St} {s z : Nat} (hs : s < 8) (hz : z ≤ 4) (hh : σ.1 (49 + 2 * s) 0 = nI z) (v : Int64) : g_Shelf_lowestBits σ (49 + 2 * s) v = some (lowb z v, σ) := by
  unfold g_Shelf_lowestBits
  rw [grd_t (kd_sh s hs), ev_bnd, hh]
  rcases (by omega : z = 0 ∨ z = 1 ∨ z = 2 ∨ z = 3 ∨ z = 4) with rfl | rfl | rfl | rfl | rfl
  · rw [ite2_p (by decide)]; rfl
  · rw [ite2_n (by decide), ite2_p (by decide)]; rfl
  · rw [ite2_n (by decide), ite2_n (by decide), ite2_p (by decide)]; rfl
  · rw [ite2_n (by decide), ite2_n (by decide), ite2_n (by decide), ite2_p (by decide)]; rfl
  · rw [ite2_n (by decide), ite2_n (by decide), ite2_n (by decide), ite2_n (by decide), ite2_p (by decide)]
    show _ = some (if lg_cmp v 0 = 0 then 0 else 1, σ)
    by_cases q : lg_cmp v 0 = 0
    · rw [ite2_p q, if_pos q]
    · rw [ite2_n q, if_neg q]
theorem e_set60 {σ : ns_St} {g1 g2 : Option Nat} (hR : σ.2.2 = ns_rg g1 g2) {s z i : Nat} (hs : s < 8) (hz : z ≤ 4) (hi : i < 40) (hh : σ.1 66 s = nI z) (v : Int64) : g_M_set_60 σ 65 (nI s) (nI i) v (if z = 0 then v.toInt32.toInt8.toInt32.toInt64 else v) = some (1, ns_pJ σ 68 (40 * s + i) (lowb z v)) := by
  have hin : ns_in (nI s) (ns_ln 66) := ns_inI hs (by decide)
  have hin2 : ns_in (nI (40 * s + i)) (ns_ln 68) := ns_inI (show 40 * s + i < 320 by omega) (by decide)
  have fin : ∀ w, g_M_set_114 σ 65 (nI s) (nI i) w = some (1, ns_pJ σ 68 (40 * s + i) w) := fun w => by
    unfold g_M_set_114
    rw [hR, rg_65_2, ev_drf, gk_68, ix40, grd_t hin2, ev_bnd, ns_ixI (by omega)]
  unfold g_M_set_60 g_M_set_76 g_M_set_91 g_M_set_112
  simp only [hR, rg_65_0, ev_drf, gk_66, grd_t hin, ev_bnd, fin]
  rw [ns_ixI (by omega), hh]
  rcases (by omega : z = 0 ∨ z = 1 ∨ z = 2 ∨ z = 3 ∨ z = 4) with rfl | rfl | rfl | rfl | rfl
  · rw [ite2_n (by decide), ite2_n (by decide), ite2_n (by decide)]; rfl
  · rw [ite2_p (by decide), ite2_n (by decide), ite2_n (by decide)]; rfl
  · rw [ite2_n (by decide), ite2_p (by decide), ite2_n (by decide)]; rfl
  · rw [ite2_n (by decide), ite2_n (by decide), ite2_n (by decide)]; rfl
  · rw [ite2_n (by decide), ite2_n (by decide), ite2_p (by decide)]
    show _ = some (1, ns_pJ σ 68 (40 * s + i) (if lg_cmp v 0 = 0 then 0 else 1))
    by_cases q : lg_cmp v 0 = 0
    · rw [ite2_p q, if_pos q]
    · rw [ite2_n q, if_neg q]
theorem k_set {B : Nat} {σ : ns_St} (h : Inv B σ) (x y : Int32) (v : Int64) : both B (g_N_set σ 0 x y v) (fun σ => g_M_set σ 65 x y v) := by
  obtain ⟨g1, g2, hR⟩ := h.1
  rcases sh_cases x with ⟨s, hs, rfl, hx⟩ | hx
  · obtain ⟨b1, b2, ⟨n, b3, b3'⟩, b4, b5⟩ := h.2.2.2.1 s hs
    have hN : g_N_set σ 0 (nI s) y v = ite2 (trb (σ.1 66 s) = 0) (ite2 (yn ((0 : Int32) ≤ y ∧ y ≤ nI n - 1) = 0) (cl2 (g_N_refuse σ 0 (-2 : Int32)) fun r32 σ31 => some (r32, σ31)) (cl2 (g_Shelf_putCell σ (49 + 2 * s) y v) fun r30 σ29 => some ((1 : Int32), σ29))) (cl2 (g_N_refuse σ 0 (trb (σ.1 66 s))) fun r34 σ33 => some (r34, σ33)) := by
      unfold g_N_set
      simp only [gk_0, e_shelfAt hR hs hx, ev_cl2, ev_ons, grd_t (kd_sh s hs), e_trb hs, e_isWithin]
      rw [b1, b2, b3']
    have hM : ∀ τ : ns_St, τ.2.2 = ns_rg g1 g2 → τ.1 66 s = σ.1 66 s → τ.1 67 s = nI n → trb (σ.1 66 s) ≠ 0 → g_M_set τ 65 (nI s) y v = cl2 (g_M_no τ 65 (trb (σ.1 66 s))) fun r62 σ61 => some (r62, σ61) := fun τ t1 t2 t3 ne => by
      have q : ¬ 0 ≤ trb (σ.1 66 s) := by
        rcases hd_row (h.hd hs) with ⟨t1, _⟩ | ⟨t1, _⟩ | ⟨t1, _⟩
        · exact absurd t1 ne
        · rw [t1]; decide
        · rw [t1]; decide
      unfold g_M_set
      rw [gk_65, e_noRow t1 hs hx (by rw [t2]; exact h.hd hs), ev_cl2, t2, ite2_n q]
    rcases hd_row (h.hd hs) with ⟨t1, t2, z, hz, t3⟩ | ⟨t1, t2, t3⟩ | ⟨t1, t2, t3⟩
    · have hin67 : ns_in (nI s) (ns_ln 67) := ns_inI hs (by decide)
      have hin66 : ns_in (nI s) (ns_ln 66) := ns_inI hs (by decide)
      rcases rg_cases y (n := n) (by omega) with ⟨i, hi, rfl, hy⟩ | ⟨hy, hy2⟩
      · have hin : ns_in (nI i) (ns_ln (50 + 2 * s)) := by rw [ln_sc s hs]; exact ns_inI (by omega) (by decide)
        have h39 : (0 : Int32) ≤ nI i ∧ nI i ≤ (39 : Int32) := ⟨nI_pos' (by omega), nI_le (b := 39) (by omega) (by decide)⟩
        refine ⟨1, ns_pJ σ (50 + 2 * s) i (lowb z v), ns_pJ (ns_pJ σ (50 + 2 * s) i (lowb z v)) 68 (40 * s + i) (lowb z v), ?_, ?_, ?_⟩
        · rw [hN, ite2_p t1, ite2_y hy]
          unfold g_Shelf_putCell
          simp only [grd_t (kd_sh s hs), e_isWithin, ev_cl2, ite2_y h39, hR, rg_sh g1 g2 hs, ev_drf, grd_t (kd_sc s hs), e_lowestBits hs hz (b1.trans t3), grd_t hin, ev_bnd]
          rw [ns_ixI (by omega)]
        · show g_M_set (ns_pJ σ (50 + 2 * s) i (lowb z v)) 65 (nI s) (nI i) v = _
          have goodM : ∀ τ : ns_St, τ.2.2 = ns_rg g1 g2 → τ.1 66 s = nI z → τ.1 67 s = nI n → g_M_set τ 65 (nI s) (nI i) v = some (1, ns_pJ τ 68 (40 * s + i) (lowb z v)) := fun τ r1 r2 r3 => by
            unfold g_M_set
            rw [gk_65, e_noRow r1 hs hx (by rw [r2]; exact Or.inr (Or.inl ⟨z, hz, rfl⟩)), ev_cl2, r2, trb_z hz, ite2_p (by decide)]
            simp only [r1, rg_65_0, rg_65_1, ev_drf, gk_66, gk_67, grd_t hin66, grd_t hin67, e_within, ev_cl2, ev_bnd]
            rw [ns_ixI (by omega), r3, ite2_y hy, r2, ← e_set60 r1 hs hz (show i < 40 by omega) r2 v]
            by_cases z0 : z = 0
            · subst z0; rw [ite2_p (show nI 0 = 0 from rfl), if_pos (Eq.refl 0)]
            · rw [ite2_n (show ¬ nI z = (0 : Int32) from fun e => z0 ((nI_eq (b := 0) (by omega) (by decide)).mp e)), if_neg z0]
          exact goodM _ hR t3 b3'
        · refine h.shelf hs rfl (fun _ _ _ _ => rfl) (fun _ _ => rfl) (fun _ _ => rfl) ?_ ?_ ?_
          · intro c p q; rw [pJ_ne _ _ _ q, pJ_ne _ _ _ p]
          · intro m hm; rw [pJ_st _ _ _ (by omega), pJ_ne _ _ _ (by omega)]
          · refine ⟨b1, b2, ⟨n, b3, b3'⟩, b4, fun m hm => ?_⟩
            rw [pJ_ne _ _ _ (by omega)]
            by_cases e : m = i
            · subst e; rw [pJ_at, pJ_at]
            · rw [pJ_st _ _ _ e, pJ_st _ _ _ (by omega), pJ_ne _ _ _ (by omega)]
              exact b5 m hm
      · refine both.bad h hR (z := 0) (by decide) (c := -2) (by decide) (by decide) ?_ ?_
        · rw [hN, ite2_p t1, ite2_z hy]
        · show g_M_set (rfN σ 0) 65 (nI s) y v = _
          have f66 : (rfN σ 0).1 66 = σ.1 66 := by rw [rfN, pI_ne _ _ _ (by decide)]
          have f67 : (rfN σ 0).1 67 = σ.1 67 := by rw [rfN, pI_ne _ _ _ (by decide)]
          unfold g_M_set
          rw [gk_65, e_noRow (σ := rfN σ 0) hR hs hx (by rw [f66]; exact h.hd hs), ev_cl2, f66, t1, ite2_p (by decide)]
          simp only [rfN_R, hR, rg_65_1, ev_drf, gk_67, grd_t hin67, e_within, ev_cl2]
          rw [ns_ixI (by omega), f67, b3', ite2_z hy]
    · refine both.bad h hR (z := 2) (by decide) (c := -4) (by decide) (by decide) ?_ ?_
      · rw [hN, t1, ite2_n (by decide)]
      · show g_M_set (rfN σ 2) 65 (nI s) y v = _
        rw [hM (rfN σ 2) hR (by rw [rfN, pI_ne _ _ _ (by decide)]) (by rw [rfN, pI_ne _ _ _ (by decide)]; exact b3') (by rw [t1]; decide), t1]
    · refine both.bad h hR (z := 1) (by decide) (c := -3) (by decide) (by decide) ?_ ?_
      · rw [hN, t1, ite2_n (by decide)]
      · show g_M_set (rfN σ 1) 65 (nI s) y v = _
        rw [hM (rfN σ 1) hR (by rw [rfN, pI_ne _ _ _ (by decide)]) (by rw [rfN, pI_ne _ _ _ (by decide)]; exact b3') (by rw [t1]; decide), t1]
  · refine both.bad h hR (z := 0) (by decide) (c := -2) (by decide) (by decide) ?_ ?_
    · unfold g_N_set
      rw [gk_0, e_shelfAtN hx, ev_cl2, ev_onn]
    · show g_M_set (rfN σ 0) 65 x y v = _
      unfold g_M_set
      rw [gk_65, e_noRowN hx, ev_cl2, ite2_n (by decide)]
theorem k_show {B : Nat} {σ : ns_St} (h : Inv B σ) (x y : Int32) : both B (g_N_show σ 0 x y) (fun σ => g_M_show σ 65 x y) := by
  obtain ⟨g1, g2, hR⟩ := h.1
  obtain ⟨E, H, a1, a2, a3, a4, a5, a6⟩ := h.2.1.get
  rcases sh_cases x with ⟨s, hs, rfl, hx⟩ | hx
  · obtain ⟨b1, b2, b3, b4, b5⟩ := h.2.2.2.1 s hs
    have hin66 : ns_in (nI s) (ns_ln 66) := ns_inI hs (by decide)
    have good : ∀ w : Int32, (w = -1 ∨ ∃ j, w = nI (10 + j) ∧ j < H) → Inv B (ns_pI (ns_pI σ (49 + 2 * s) 0 w) 66 s w) := fun w hw => by
      refine h.shelf hs rfl (fun c p q r => by rw [pI_ne _ _ _ q, pI_ne _ _ _ p]) (fun i hi => by rw [pI_st _ _ _ hi, pI_ne _ _ _ (by omega)]) (fun i hi => by rw [pI_ne _ _ _ (by decide), pI_ne _ _ _ (by omega)]) (fun _ _ _ => rfl) (fun _ _ => rfl) ⟨?_, ?_, ?_, ?_, b5⟩
      · rw [pI_at, pI_ne _ _ _ (by omega), pI_at]
      · rw [pI_ne _ _ _ (by omega), pI_st _ _ _ (by decide), pI_ne _ _ _ (by decide), pI_ne _ _ _ (by omega)]; exact b2
      · rw [pI_ne _ _ _ (by decide), pI_ne _ _ _ (by omega)]; exact b3
      · rw [pI_at, pI_ne _ _ _ (by decide), pI_ne _ _ _ (by omega), a2, nI_clamp (by omega)]
        exact hw.imp id Or.inr
    by_cases hy : y = -1
    · refine ⟨1, ns_pI σ (49 + 2 * s) 0 (-1), ns_pI (ns_pI σ (49 + 2 * s) 0 (-1)) 66 s (-1), ?_, ?_, good _ (Or.inl rfl)⟩
      · unfold g_N_show g_N_show_33
        rw [gk_0, e_shelfAt hR hs hx, ev_cl2, ev_ons, grd_t (kd_sh s hs), ite2_p hy, ite2_p hy, ev_bnd]
      · show g_M_show (ns_pI σ (49 + 2 * s) 0 (-1)) 65 (nI s) y = _
        unfold g_M_show g_M_show_30
        rw [gk_65, e_within, ev_cl2, ite2_y hx, ite2_p hy, pI_R, hR, rg_65_0, ev_drf, gk_66, ite2_p hy, grd_t hin66, ev_bnd, ns_ixI (by omega)]
    · rcases mu_cases y a3 with ⟨j, hj, rfl, hm⟩ | ⟨hm, hm2⟩
      · have e10 : (10 : Int32) + nI j = nI (10 + j) := by rw [show (10 : Int32) = nI 10 from rfl, nI_add]
        refine ⟨1, ns_pI σ (49 + 2 * s) 0 (nI (10 + j)), ns_pI (ns_pI σ (49 + 2 * s) 0 (nI (10 + j))) 66 s (nI (10 + j)), ?_, ?_, good _ (Or.inr ⟨j, rfl, hj⟩)⟩
        · unfold g_N_show g_N_show_33
          rw [gk_0, e_shelfAt hR hs hx, ev_cl2, ev_ons, grd_t (kd_sh s hs), ite2_n hy, hR, rg_0_0, ev_drf, gk_1, e_muleAt hR a3 a5 hj, ev_cl2, ev_ons, grd_t (kd_m4 j (by omega)), ite2_n hy, ev_bnd, e10]
        · show g_M_show (ns_pI σ (49 + 2 * s) 0 (nI (10 + j))) 65 (nI s) (nI j) = _
          have e5 : (ns_pI σ (49 + 2 * s) 0 (nI (10 + j))).1 65 5 = nI H := by rw [pI_ne _ _ _ (by omega)]; exact a2
          unfold g_M_show g_M_show_30
          rw [gk_65, e_within, ev_cl2, ite2_y hx, ite2_n hy, e_isMule, ev_cl2, e5, ite2_y hm, pI_R, hR, rg_65_0, ev_drf, gk_66, ite2_n hy, grd_t hin66, ev_bnd, ns_ixI (by omega), e10]
      · refine both.bad h hR (z := 0) (by decide) (c := -2) (by decide) (by decide) ?_ ?_
        · unfold g_N_show
          rw [gk_0, e_shelfAt hR hs hx, ev_cl2, ev_ons, grd_t (kd_sh s hs), ite2_n hy, hR, rg_0_0, ev_drf, gk_1, e_muleAtN a5 hm2, ev_cl2, ev_onn]
        · show g_M_show (rfN σ 0) 65 (nI s) y = _
          have e5 : (rfN σ 0).1 65 5 = nI H := by rw [rfN, pI_ne _ _ _ (by decide)]; exact a2
          unfold g_M_show
          rw [gk_65, e_within, ev_cl2, ite2_y hx, ite2_n hy, e_isMule, ev_cl2, e5, ite2_z hm]
  · refine both.bad h hR (z := 0) (by decide) (c := -2) (by decide) (by decide) ?_ ?_
    · unfold g_N_show
      rw [gk_0, e_shelfAtN hx, ev_cl2, ev_onn]
    · show g_M_show (rfN σ 0) 65 x y = _
      unfold g_M_show
      rw [gk_65, e_within, ev_cl2, ite2_z hx]
theorem sub_le {i sz n : Nat} (hi : i < 2 ^ 31) (hs : sz ≤ 40) (hn : n < 2 ^ 31) : nI i ≤ nI sz - nI n ↔ i + n ≤ sz := by
  have e1 := nI_toInt hi
  have e2 := nI_toInt (show sz < 2 ^ 31 by omega)
  have e3 := nI_toInt hn
  rw [Int32.le_iff_toInt_le, fb_subI (by rw [e2, e3]; omega) (by rw [e2, e3]; omega), e1, e2, e3]
  omega
theorem ix40b (s j k : Nat) : (40 : Int32) * nI s + nI j + nI k = nI (40 * s + j + k) := by rw [ix40, nI_add]
theorem e_cp229 {g1 g2 : Option Nat} {p q i j n : Nat} (hp : p < 8) (hq : q < 8) (hi : i + n ≤ 40) (hj : j + n ≤ 40) (safe : ∀ k m, m < k → k < n → 40 * p + i + k ≠ 40 * q + j + m) (V : Nat → Int64) : ∀ (r k f : Nat) (τ : ns_St), r < f → k + r = n → τ.2.2 = ns_rg g1 g2 → (∀ m, τ.2.1 68 m = if 40 * q + j ≤ m ∧ m < 40 * q + j + k then V (40 * p + i + (m - (40 * q + j))) else V m) → ∃ τ', g_M_copy_229 f τ 65 (nI p) (nI q) (nI i) (nI j) (nI n) (nI k) = some (nI n, τ') ∧ OnJ 68 τ τ' ∧ ∀ m, τ'.2.1 68 m = if 40 * q + j ≤ m ∧ m < 40 * q + j + n then V (40 * p + i + (m - (40 * q + j))) else V m := by
  intro r
  induction r with
  | zero =>
    intro k f τ hf hk hR hV
    obtain ⟨f, rfl⟩ : ∃ q, f = q + 1 := ⟨f - 1, by omega⟩
    have : k = n := by omega
    subst this
    refine ⟨τ, ?_, OnJ.rfl _ _, hV⟩
    rw [g_M_copy_229, ite2_p (nI_le (Nat.le_refl _) (by omega))]
  | succ r ih =>
    intro k f τ hf hk hR hV
    obtain ⟨f, rfl⟩ : ∃ q, f = q + 1 := ⟨f - 1, by omega⟩
    have hin1 : ns_in (nI (40 * p + i + k)) (ns_ln 68) := ns_inI (show 40 * p + i + k < 320 by omega) (by decide)
    have hin2 : ns_in (nI (40 * q + j + k)) (ns_ln 68) := ns_inI (show 40 * q + j + k < 320 by omega) (by decide)
    have hv : τ.2.1 68 (40 * p + i + k) = V (40 * p + i + k) := by
      rw [hV, if_neg]
      intro ⟨u, w⟩
      exact safe k (40 * p + i + k - (40 * q + j)) (by omega) (by omega) (by omega)
    obtain ⟨τ', e, on, v⟩ := ih (k + 1) f (ns_pJ τ 68 (40 * q + j + k) (V (40 * p + i + k))) (by omega) (by omega) hR (fun m => by
      by_cases u : m = 40 * q + j + k
      · subst u; rw [pJ_at, if_pos (by omega)]; congr 1; omega
      · rw [pJ_st _ _ _ u, hV]
        by_cases w : 40 * q + j ≤ m ∧ m < 40 * q + j + k
        · rw [if_pos w, if_pos (by omega)]
        · rw [if_neg w, if_neg (by omega)])
    refine ⟨τ', ?_, OnJ.pJ.trans on, v⟩
    rw [g_M_copy_229, ite2_n (nI_ge (by omega) (by omega)), hR, rg_65_2, ev_drf, gk_68, ev_drf, gk_68, ix40b, ix40b, grd_t hin1, grd_t hin2, ev_bnd, ev_bnd, ns_ixI (by omega), ns_ixI (by omega), hv, ← nI_succ]
    exact e
theorem e_cp183 {g1 g2 : Option Nat} {p q i j n : Nat} (hp : p < 8) (hq : q < 8) (hi : i + n ≤ 40) (hj : j + n ≤ 40) (safe : ∀ k m, k < m → m < n → 40 * p + i + k ≠ 40 * q + j + m) (V : Nat → Int64) : ∀ (k f : Nat) (τ : ns_St), k < f → k ≤ n → τ.2.2 = ns_rg g1 g2 → (∀ m, τ.2.1 68 m = if 40 * q + j + k ≤ m ∧ m < 40 * q + j + n then V (40 * p + i + (m - (40 * q + j))) else V m) → ∃ τ', g_M_copy_183 f τ 65 (nI p) (nI q) (nI i) (nI j) (nI n) (nI k + (-1)) = some (nI n, τ') ∧ OnJ 68 τ τ' ∧ ∀ m, τ'.2.1 68 m = if 40 * q + j ≤ m ∧ m < 40 * q + j + n then V (40 * p + i + (m - (40 * q + j))) else V m := by
  intro k
  induction k with
  | zero =>
    intro f τ hf hk hR hV
    obtain ⟨f, rfl⟩ : ∃ q, f = q + 1 := ⟨f - 1, by omega⟩
    refine ⟨τ, ?_, OnJ.rfl _ _, hV⟩
    rw [g_M_copy_183, ite2_p (by decide)]
  | succ k ih =>
    intro f τ hf hk hR hV
    obtain ⟨f, rfl⟩ : ∃ q, f = q + 1 := ⟨f - 1, by omega⟩
    have hin1 : ns_in (nI (40 * p + i + k)) (ns_ln 68) := ns_inI (show 40 * p + i + k < 320 by omega) (by decide)
    have hin2 : ns_in (nI (40 * q + j + k)) (ns_ln 68) := ns_inI (show 40 * q + j + k < 320 by omega) (by decide)
    have hv : τ.2.1 68 (40 * p + i + k) = V (40 * p + i + k) := by
      rw [hV, if_neg]
      intro ⟨u, w⟩
      exact safe k (40 * p + i + k - (40 * q + j)) (by omega) (by omega) (by omega)
    obtain ⟨τ', e, on, v⟩ := ih f (ns_pJ τ 68 (40 * q + j + k) (V (40 * p + i + k))) (by omega) (by omega) hR (fun m => by
      by_cases u : m = 40 * q + j + k
      · subst u; rw [pJ_at, if_pos (by omega)]; congr 1; omega
      · rw [pJ_st _ _ _ u, hV]
        by_cases w : 40 * q + j + (k + 1) ≤ m ∧ m < 40 * q + j + n
        · rw [if_pos w, if_pos (by omega)]
        · rw [if_neg w, if_neg (by omega)])
    refine ⟨τ', ?_, OnJ.pJ.trans on, v⟩
    rw [pk_m1, g_M_copy_183, ite2_n (nI_pos (by omega)), hR, rg_65_2, ev_drf, gk_68, ev_drf, gk_68, ix40b, ix40b, grd_t hin1, grd_t hin2, ev_bnd, ev_bnd, ns_ixI (by omega), ns_ixI (by omega), hv]
    exact e
