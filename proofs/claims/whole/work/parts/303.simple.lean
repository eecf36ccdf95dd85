/-- a refusal, of the class and then of the reference -/
def rfN (σ : ns_St) (z : Nat) : ns_St := ns_pI σ 48 z (σ.1 48 z + 1)
def rfM (σ : ns_St) (z : Nat) : ns_St := ns_pI σ 77 (z + 2) (σ.1 77 (z + 2) + 1)
theorem e_refuse {σ : ns_St} {g1 g2 : Option Nat} (hR : σ.2.2 = ns_rg g1 g2) (z : Nat) (c : Int32) (h1 : (-2 : Int32) - c = nI z) (h2 : z < 5) : g_N_refuse σ 0 c = some (c, rfN σ z) := by
  have hw : (0 : Int32) ≤ nI z ∧ nI z ≤ (4 : Int32) := ⟨nI_pos' (by omega), nI_le (b := 4) (by omega) (by decide)⟩
  have hin : ns_in (nI z) (ns_ln 48) := nI_in h2 (by decide)
  unfold g_N_refuse
  simp only [gk_0, ev_bnd, h1, e_isWithin, ev_cl2, ite2_y hw, hR, rg_0_10, ev_drf, gk_48, grd_t hin]
  show some (c, ns_pI σ 48 (nI z).toNatClampNeg (σ.1 48 (nI z).toNatClampNeg + 1)) = _
  rw [nI_clamp (by omega)]
  rfl
theorem e_no {σ : ns_St} {g1 g2 : Option Nat} (hR : σ.2.2 = ns_rg g1 g2) (z : Nat) (c : Int32) (h1 : -c = nI (z + 2)) (h2 : z < 5) : g_M_no σ 65 c = some (c, rfM σ z) := by
  have hin : ns_in (nI (z + 2)) (ns_ln 77) := nI_in (show z + 2 < 7 by omega) (by decide)
  unfold g_M_no
  simp only [gk_65, ev_bnd, h1, hR, rg_65_21, ev_drf, gk_77, grd_t hin]
  show some (c, ns_pI σ 77 (nI (z + 2)).toNatClampNeg (σ.1 77 (nI (z + 2)).toNatClampNeg + 1)) = _
  rw [nI_clamp (by omega)]
  rfl
theorem rfN_R (σ : ns_St) (z : Nat) : (rfN σ z).2.2 = σ.2.2 := rfl
theorem rfM_R (σ : ns_St) (z : Nat) : (rfM σ z).2.2 = σ.2.2 := rfl
theorem Inv.refuse {B : Nat} {σ : ns_St} (h : Inv B σ) {z : Nat} (hz : z < 5) : Inv B (rfM (rfN σ z) z) := by
  obtain ⟨hrf, hw, him, hsh, htp, hrs⟩ := h
  have key : ∀ c, c ≠ 48 → c ≠ 77 → (rfM (rfN σ z) z).1 c = σ.1 c := fun c h1 h2 => by
    rw [rfM, pI_ne _ _ _ h2, rfN, pI_ne _ _ _ h1]
  have k65 := key 65 (by decide) (by decide)
  refine ⟨hrf, hw.cong (fun c _ _ => key c (by omega) (by omega)) rfl (by rw [k65]) (by rw [k65]) (by rw [k65]) (by rw [k65]) (by rw [k65]) (fun c _ _ => key c (by omega) (by omega)), him.cong (by rw [key 0 (by decide) (by decide)]) (by rw [k65]) (fun c _ _ => key c (by omega) (by omega)) rfl (key 78 (by omega) (by omega)), hsh.cong (fun c _ _ => key c (by omega) (by omega)) (fun _ _ _ => rfl) (key 66 (by omega) (by omega)) (key 67 (by omega) (by omega)) rfl (by rw [k65]), htp.cong (key 29 (by omega) (by omega)) (key 30 (by omega) (by omega)) (key 76 (by omega) (by omega)) (by rw [k65]), ?_⟩
  intro k hk
  have hb := hrs k hk
  have e1 : (rfM (rfN σ z) z).1 48 k = (rfN σ z).1 48 k := by rw [rfM, pI_ne _ _ _ (by decide)]
  have e2 : (rfN σ z).1 77 = σ.1 77 := by rw [rfN, pI_ne _ _ _ (by decide)]
  rw [e1]
  by_cases hkz : k = z
  · subst hkz
    rw [rfM, pI_at, e2, rfN, pI_at, hb]
  · rw [rfM, pI_st _ _ _ (by omega), e2, rfN, pI_st _ _ _ hkz]
    exact hb
/-- a call of both: the same answer, and what holds between calls holds behind it -/
def both {α : Type} (B : Nat) (x : Option (α × ns_St)) (y : ns_St → Option (α × ns_St)) : Prop := ∃ (r : α) (σ1 σ2 : ns_St), x = some (r, σ1) ∧ y σ1 = some (r, σ2) ∧ Inv B σ2
theorem both.bad {B : Nat} {σ : ns_St} (h : Inv B σ) {g1 g2 : Option Nat} (hR : σ.2.2 = ns_rg g1 g2) {z : Nat} (hz : z < 5) {c : Int32} (h1 : (-2 : Int32) - c = nI z) (h2 : -c = nI (z + 2)) {x : Option (Int32 × ns_St)} {y : ns_St → Option (Int32 × ns_St)} (hx : x = cl2 (g_N_refuse σ 0 c) fun r σ' => some (r, σ')) (hy : y (rfN σ z) = cl2 (g_M_no (rfN σ z) 65 c) fun r σ' => some (r, σ')) : both B x y := by
  refine ⟨c, rfN σ z, rfM (rfN σ z) z, ?_, ?_, h.refuse hz⟩
  · rw [hx, e_refuse hR z c h1 hz, ev_cl2]
  · rw [hy, e_no (σ := rfN σ z) hR z c h2 hz, ev_cl2]
/-- the first cells of both worlds: fields that a call sets -/
theorem Wnow.fld {B : Nat} {σ σ' : ns_St} (h : Wnow σ B) (h1 : ∀ c, 2 ≤ c → c < 10 → σ'.1 c = σ.1 c) (hj : σ'.2.1 2 = σ.2.1 2) (h2 : σ'.1 1 2 = σ.1 1 2) (h3 : σ'.1 65 3 = σ.1 65 3) (h5 : σ'.1 65 5 = σ.1 65 5) (hs : σ'.1 1 3 = σ'.1 65 12) (hs2 : 0 ≤ σ'.1 65 12 ∧ σ'.1 65 12 ≤ 1000) (hf : σ'.1 1 4 = σ'.1 65 13) (hd : σ'.1 1 5 = σ'.1 65 14) (hm : ∀ c, 69 ≤ c → c ≤ 75 → σ'.1 c = σ.1 c) : Wnow σ' B := by
  obtain ⟨E, H, a1, a2, a3, a4, a5, a6, a7, a8, a9, a10⟩ := h
  refine ⟨E, H, by rw [h3]; exact a1, by rw [h5]; exact a2, a3, ?_, by rw [h2]; exact a5, hs, hs2, hf, hd, ?_⟩
  · rw [hm 69 (by omega) (by omega)]; exact a4.cong (h1 2 (by omega) (by omega)) hj
  · intro j hj
    obtain ⟨K, N, A, C, O, b1, b2, b3⟩ := a10 j hj
    rw [hm 70 (by omega) (by omega), hm 71 (by omega) (by omega), hm 72 (by omega) (by omega), hm 73 (by omega) (by omega), hm 74 (by omega) (by omega), hm 75 (by omega) (by omega)]
    exact ⟨K, N, A, C, O, b1, b2.cong (h1 _ (by omega) (by omega)), b3⟩
theorem Wnow.fs {B : Nat} {σ : ns_St} (h : Wnow σ B) : σ.1 1 3 = σ.1 65 12 ∧ (0 ≤ σ.1 65 12 ∧ σ.1 65 12 ≤ 1000) ∧ σ.1 1 4 = σ.1 65 13 ∧ σ.1 1 5 = σ.1 65 14 := by
  obtain ⟨E, H, a1, a2, a3, a4, a5, a6, a7, a8, a9, a10⟩ := h
  exact ⟨a6, a7, a8, a9⟩
/-- one field of the class's world and one of the reference -/
theorem Inv.two {B : Nat} {σ : ns_St} (h : Inv B σ) {i j : Nat} {v w : Int32} (hi : i ≠ 2) (hj : j ≠ 3 ∧ j ≠ 5 ∧ j ≠ 15 ∧ j ≠ 22) (hs : (ns_pI (ns_pI σ 1 i v) 65 j w).1 1 3 = (ns_pI (ns_pI σ 1 i v) 65 j w).1 65 12) (hs2 : 0 ≤ (ns_pI (ns_pI σ 1 i v) 65 j w).1 65 12 ∧ (ns_pI (ns_pI σ 1 i v) 65 j w).1 65 12 ≤ 1000) (hf : (ns_pI (ns_pI σ 1 i v) 65 j w).1 1 4 = (ns_pI (ns_pI σ 1 i v) 65 j w).1 65 13) (hd : (ns_pI (ns_pI σ 1 i v) 65 j w).1 1 5 = (ns_pI (ns_pI σ 1 i v) 65 j w).1 65 14) : Inv B (ns_pI (ns_pI σ 1 i v) 65 j w) := by
  obtain ⟨hrf, hw, him, hsh, htp, hrs⟩ := h
  have key : ∀ c, c ≠ 1 → c ≠ 65 → (ns_pI (ns_pI σ 1 i v) 65 j w).1 c = σ.1 c := fun c h1 h2 => by rw [pI_ne _ _ _ h2, pI_ne _ _ _ h1]
  have k65 : ∀ k, k ≠ j → (ns_pI (ns_pI σ 1 i v) 65 j w).1 65 k = σ.1 65 k := fun k hk => by rw [pI_st _ _ _ hk, pI_ne _ _ _ (by decide)]
  refine ⟨hrf, hw.fld (fun c _ _ => key c (by omega) (by omega)) rfl (by rw [pI_ne _ _ _ (by decide), pI_st _ _ _ (Ne.symm hi)]) (k65 3 (by omega)) (k65 5 (by omega)) hs hs2 hf hd (fun c _ _ => key c (by omega) (by omega)), him.cong (by rw [key 0 (by decide) (by decide)]) (k65 22 (by omega)) (fun c _ _ => key c (by omega) (by omega)) rfl (key 78 (by omega) (by omega)), hsh.cong (fun c _ _ => key c (by omega) (by omega)) (fun _ _ _ => rfl) (key 66 (by omega) (by omega)) (key 67 (by omega) (by omega)) rfl (k65 5 (by omega)), htp.cong (key 29 (by omega) (by omega)) (key 30 (by omega) (by omega)) (key 76 (by omega) (by omega)) (k65 15 (by omega)), hrs.cong (key 48 (by omega) (by omega)) (key 77 (by omega) (by omega))⟩
theorem k_slip {B : Nat} {σ : ns_St} (h : Inv B σ) (v : Int32) : both B (g_N_slip σ 0 v) (fun σ => g_M_slip σ 65 v) := by
  obtain ⟨g1, g2, hR⟩ := h.1
  obtain ⟨f1, f2, f3, f4⟩ := h.2.1.fs
  by_cases hv : 0 ≤ v ∧ v ≤ 1000
  · refine ⟨σ.1 1 3, ns_pI σ 1 3 v, ns_pI (ns_pI σ 1 3 v) 65 12 v, ?_, ?_, ?_⟩
    · unfold g_N_slip
      simp only [gk_0, e_isWithin, ev_cl2, ite2_y hv, hR, rg_0_0, ev_drf, gk_1, ev_bnd]
    · show g_M_slip (ns_pI σ 1 3 v) 65 v = _
      unfold g_M_slip
      simp only [gk_65, e_within, ev_cl2, ite2_y hv, ev_bnd]
      rw [pI_ne _ _ _ (by decide), f1]
    · refine h.two (by decide) (by decide) ?_ ?_ ?_ ?_
      · rw [pI_ne _ _ _ (by decide), pI_at, pI_at]
      · rw [pI_at]; exact hv
      · rw [pI_ne _ _ _ (by decide), pI_st _ _ _ (by decide), pI_st _ _ _ (by decide), pI_ne _ _ _ (by decide)]; exact f3
      · rw [pI_ne _ _ _ (by decide), pI_st _ _ _ (by decide), pI_st _ _ _ (by decide), pI_ne _ _ _ (by decide)]; exact f4
  · refine both.bad h hR (z := 0) (by decide) (c := -2) (by decide) (by decide) ?_ ?_
    · unfold g_N_slip
      simp only [gk_0, e_isWithin, ev_cl2, ite2_z hv]
    · show g_M_slip (rfN σ 0) 65 v = _
      unfold g_M_slip
      simp only [gk_65, e_within, ev_cl2, ite2_z hv]
theorem k_seed {B : Nat} {σ : ns_St} (h : Inv B σ) (v : Int32) : both B (g_N_seed σ 0 v) (fun σ => g_M_seed σ 65 v) := by
  obtain ⟨g1, g2, hR⟩ := h.1
  obtain ⟨f1, f2, f3, f4⟩ := h.2.1.fs
  refine ⟨σ.1 1 5, ns_pI σ 1 5 v, ns_pI (ns_pI σ 1 5 v) 65 14 v, ?_, ?_, ?_⟩
  · unfold g_N_seed
    simp only [gk_0, hR, rg_0_0, ev_drf, gk_1, ev_bnd]
  · show g_M_seed (ns_pI σ 1 5 v) 65 v = _
    unfold g_M_seed
    simp only [gk_65, ev_bnd]
    rw [pI_ne _ _ _ (by decide), f4]
  · refine h.two (by decide) (by decide) ?_ ?_ ?_ ?_
    · rw [pI_ne _ _ _ (by decide), pI_st _ _ _ (by decide), pI_st _ _ _ (by decide), pI_ne _ _ _ (by decide)]; exact f1
    · rw [pI_st _ _ _ (by decide), pI_ne _ _ _ (by decide)]; exact f2
    · rw [pI_ne _ _ _ (by decide), pI_st _ _ _ (by decide), pI_st _ _ _ (by decide), pI_ne _ _ _ (by decide)]; exact f3
    · rw [pI_ne _ _ _ (by decide), pI_at, pI_at]
