/-! MULES: new ones, where they stand, home -/
def Wk (g1 g2 : Option Nat) (w : Nat) : Prop := ns_kd w = 7 ∧ ns_kd (w + 1) = 1 ∧ ns_kd (w + 2) = 12 ∧ ns_ln (w + 2) = 6 ∧ (∀ j, j < 6 → ns_kd (w + 3 + j) = 2) ∧ ns_rg g1 g2 w 0 = some (w + 1) ∧ ns_rg g1 g2 w 1 = some (w + 2) ∧ ∀ j, j < 6 → ns_rg g1 g2 (w + 2) j = some (w + 3 + j)
theorem wk1 (g1 g2 : Option Nat) : Wk g1 g2 1 := ⟨kd_1, kd_2, kd_3, ln_3, kd_m4, rg_1_0 g1 g2, rg_1_1 g1 g2, fun _ hj => rg_ml3 g1 g2 hj⟩
theorem wk10 (g1 g2 : Option Nat) : Wk g1 g2 10 := ⟨kd_10, kd_11, kd_12, ln_12, kd_m13, rg_10_0 g1 g2, rg_10_1 g1 g2, fun _ hj => rg_ml12 g1 g2 hj⟩
theorem wk19 (g1 g2 : Option Nat) : Wk g1 g2 19 := ⟨kd_19, kd_20, kd_21, ln_21, kd_m22, rg_19_0 g1 g2, rg_19_1 g1 g2, fun _ hj => rg_ml21 g1 g2 hj⟩
def und (K k : Nat) : Bool := decide (k = 0) || decide (K = k) || (decide (K = 3) && decide (k = 1)) || (decide (K = 5) && decide (k = 2))
theorem six {k : Nat} (h : k ≤ 5) : k = 0 ∨ k = 1 ∨ k = 2 ∨ k = 3 ∨ k = 4 ∨ k = 5 := by omega
theorem e_isUnder {σ : ns_St} {K k : Nat} (hK : K ≤ 5) (hk : k ≤ 5) : g_N_isUnder σ (nI K) (nI k) = some (yn (und K k = true), σ) := by
  unfold g_N_isUnder
  show g_N_isUnder_4 (9992 + 8) σ (nI k) (nI K) 0 = _
  generalize 9992 = f
  rcases six hK with rfl | rfl | rfl | rfl | rfl | rfl <;> rcases six hk with rfl | rfl | rfl | rfl | rfl | rfl <;> rfl
theorem e_isUnderM {σ : ns_St} {K k : Nat} (hK : K ≤ 5) (hk : k ≤ 5) : g_M_isUnder σ (nI K) (nI k) = some (yn (und K k = true), σ) := by
  unfold g_M_isUnder g_M_isUnder_19
  rcases six hK with rfl | rfl | rfl | rfl | rfl | rfl <;> rcases six hk with rfl | rfl | rfl | rfl | rfl | rfl <;> rfl
theorem e_newMule {σ : ns_St} {g1 g2 : Option Nat} (hR : σ.2.2 = ns_rg g1 g2) {w H : Nat} (hW : Wk g1 g2 w) (hH : H < 6) (hh : σ.1 w 2 = nI H) : g_World_newMule σ w = some (some (w + 3 + H), ns_pI σ w 2 (nI (H + 1))) := by
  have hin : ns_in (nI H) (ns_ln (w + 2)) := by rw [hW.2.2.2.1]; exact ns_inI hH (by decide)
  unfold g_World_newMule
  rw [grd_t hW.1, hh, ite2_p (show nI H < (6 : Int32) from nI_lt (b := 6) hH (by decide)), ev_bnd, ← nI_succ, pI_at, nI_pred, pI_R, hR, hW.2.2.2.2.2.2.1, ev_drf, grd_t hW.2.2.1, grd_t hin, ns_ixI (by omega), hW.2.2.2.2.2.2.2 H hH, ev_drf, grd_t (hW.2.2.2.2.1 H hH)]
theorem e_newMuleF {σ : ns_St} {w : Nat} (hw : ns_kd w = 7) (hh : σ.1 w 2 = nI 6) : g_World_newMule σ w = some (none, σ) := by
  unfold g_World_newMule
  rw [grd_t hw, hh, ite2_n (by decide)]
theorem e_become {σ : ns_St} {c K N O : Nat} (hc : ns_kd c = 2) (hK : K ≤ 5) : ∃ τ, g_Mule_become σ c (nI K) (nI N) (nI O) = some ((), τ) ∧ On c σ τ ∧ MU τ c K N 0 0 O 0 := by
  have b0 : ∀ (σ : ns_St) (v1 v2 v3 v4 v5 v6 : Int32), On c σ (ns_pI (ns_pI (ns_pI (ns_pI (ns_pI (ns_pI σ c 0 v1) c 1 v2) c 5 v3) c 2 v4) c 3 v5) c 4 v6) := fun σ v1 v2 v3 v4 v5 v6 => ((((On.pI.trans On.pI).trans On.pI).trans On.pI).trans On.pI).trans On.pI
  unfold g_Mule_become g_Mule_become_52
  rw [grd_t hc]
  simp only [ev_bnd]
  generalize hτ : ns_pI (ns_pI (ns_pI (ns_pI (ns_pI (ns_pI σ c 0 (nI K)) c 1 (nI N)) c 5 (nI O)) c 2 0) c 3 0) c 4 0 = τ
  have on : On c σ τ := by rw [← hτ]; exact b0 _ _ _ _ _ _ _
  have q0 : τ.1 c 0 = nI K := by rw [← hτ]; simp [pI_1]
  have q1 : τ.1 c 1 = nI N := by rw [← hτ]; simp [pI_1]
  have q2 : τ.1 c 2 = 0 := by rw [← hτ]; simp [pI_1]
  have q3 : τ.1 c 3 = 0 := by rw [← hτ]; simp [pI_1]
  have q4 : τ.1 c 4 = 0 := by rw [← hτ]; simp [pI_1]
  have q5 : τ.1 c 5 = nI O := by rw [← hτ]; simp [pI_1]
  have u1 : ∀ τ : ns_St, g_N_isUnder τ (nI K) 1 = some (yn (und K 1 = true), τ) := fun τ => e_isUnder (k := 1) hK (by omega)
  have u2 : ∀ τ : ns_St, g_N_isUnder τ (nI K) 2 = some (yn (und K 2 = true), τ) := fun τ => e_isUnder (k := 2) hK (by omega)
  have fin : ∀ v : Int32, v = nI (if K = 1 ∨ K = 3 then 1 + O else 1) → ∃ τ', (cl2 (g_N_isUnder (ns_pI τ c 6 v) ((ns_pI τ c 6 v).1 c 0) 2) fun r18 σ17 => ite2 (r18 = 0) (some ((), ns_pI σ17 c 7 1)) (some ((), ns_pI σ17 c 7 0))) = some ((), τ') ∧ On c σ τ' ∧ MU τ' c K N 0 0 O 0 := by
    intro v hv
    have e0 : (ns_pI τ c 6 v).1 c 0 = nI K := by rw [pI_st _ _ _ (by decide)]; exact q0
    have mu : ∀ y : Int32, y = nI (if K = 2 ∨ K = 5 then 0 else 1) → MU (ns_pI (ns_pI τ c 6 v) c 7 y) c K N 0 0 O 0 := fun y hy => by
      have k : ∀ i, i ≠ 6 → i ≠ 7 → (ns_pI (ns_pI τ c 6 v) c 7 y).1 c i = τ.1 c i := fun i p q => by rw [pI_st _ _ _ q, pI_st _ _ _ p]
      have k6 : (ns_pI (ns_pI τ c 6 v) c 7 y).1 c 6 = v := by rw [pI_st _ _ _ (by decide), pI_at]
      exact ⟨(k 0 (by decide) (by decide)).trans q0, (k 1 (by decide) (by decide)).trans q1, (k 2 (by decide) (by decide)).trans q2, (k 3 (by decide) (by decide)).trans q3, (k 4 (by decide) (by decide)).trans q4, (k 5 (by decide) (by decide)).trans q5, k6.trans hv, (pI_at _ _ _ _).trans hy⟩
    rw [e0, u2, ev_cl2]
    by_cases hu : und K 2 = true
    · refine ⟨_, by rw [ite2_y hu], (on.trans On.pI).trans On.pI, mu 0 ?_⟩
      rcases six hK with rfl | rfl | rfl | rfl | rfl | rfl <;> first | rfl | (exact absurd hu (by decide))
    · refine ⟨_, by rw [ite2_z hu], (on.trans On.pI).trans On.pI, mu 1 ?_⟩
      rcases six hK with rfl | rfl | rfl | rfl | rfl | rfl <;> first | rfl | (exact absurd (by decide) hu)
  rw [q0, u1, ev_cl2]
  by_cases hu : und K 1 = true
  · rw [ite2_y hu, q5, show (1 : Int32) = nI 1 from rfl, nI_add]
    refine fin _ ?_
    rcases six hK with rfl | rfl | rfl | rfl | rfl | rfl <;> first | rfl | (exact absurd hu (by decide))
  · rw [ite2_z hu]
    refine fin _ ?_
    rcases six hK with rfl | rfl | rfl | rfl | rfl | rfl <;> first | rfl | (exact absurd (by decide) hu)
/-- newMule, of the reference -/
theorem e_newMuleM {σ : ns_St} {g1 g2 : Option Nat} (hR : σ.2.2 = ns_rg g1 g2) {H : Nat} (hH : H < 6) (hh : σ.1 65 5 = nI H) (x y z : Int32) : ∃ τ, g_M_newMule σ 65 x y z = some (nI H, τ) ∧ τ.2 = σ.2 ∧ (∀ c, ¬ (70 ≤ c ∧ c ≤ 75) → c ≠ 65 → τ.1 c = σ.1 c) ∧ (∀ k, k ≠ 5 → τ.1 65 k = σ.1 65 k) ∧ τ.1 65 5 = nI (H + 1) ∧ (∀ c i, 70 ≤ c → c ≤ 75 → i ≠ H → τ.1 c i = σ.1 c i) ∧ τ.1 70 H = x ∧ τ.1 71 H = y ∧ τ.1 72 H = 0 ∧ τ.1 73 H = 0 ∧ τ.1 74 H = 0 ∧ τ.1 75 H = z := by
  have i0 : ns_in (nI H) (ns_ln 70) := ns_inI (show H < 6 by omega) (by decide)
  have i1 : ns_in (nI H) (ns_ln 71) := ns_inI (show H < 6 by omega) (by decide)
  have i2 : ns_in (nI H) (ns_ln 72) := ns_inI (show H < 6 by omega) (by decide)
  have i3 : ns_in (nI H) (ns_ln 73) := ns_inI (show H < 6 by omega) (by decide)
  have i4 : ns_in (nI H) (ns_ln 74) := ns_inI (show H < 6 by omega) (by decide)
  have i5 : ns_in (nI H) (ns_ln 75) := ns_inI (show H < 6 by omega) (by decide)
  have ix : ns_ix (nI H) = H := ns_ixI (by omega)
  have k65 : ∀ (τ : ns_St) (c i : Nat) (v : Int32), 70 ≤ c → (ns_pI τ c i v).1 65 = τ.1 65 := fun τ c i v hc => pI_ne _ _ _ (by omega)
  unfold g_M_newMule
  simp only [gk_65, pI_R, hR, rg_65_6, rg_65_7, rg_65_8, rg_65_9, rg_65_10, rg_65_11, ev_drf, gk_70, gk_71, gk_72, gk_73, gk_74, gk_75, ev_bnd, k65 _ 70 _ _ (by decide), k65 _ 71 _ _ (by decide), k65 _ 72 _ _ (by decide), k65 _ 73 _ _ (by decide), k65 _ 74 _ _ (by decide), k65 _ 75 _ _ (by decide), hh, grd_t i0, grd_t i1, grd_t i2, grd_t i3, grd_t i4, grd_t i5, ix]
  refine ⟨_, rfl, rfl, ?_, ?_, ?_, ?_, ?_, ?_, ?_, ?_, ?_, ?_⟩
  · intro c p q
    rw [pI_ne _ _ _ q, pI_ne _ _ _ (by omega), pI_ne _ _ _ (by omega), pI_ne _ _ _ (by omega), pI_ne _ _ _ (by omega), pI_ne _ _ _ (by omega), pI_ne _ _ _ (by omega)]
  · intro k hk
    rw [pI_st _ _ _ hk, k65 _ 75 _ _ (by decide), k65 _ 74 _ _ (by decide), k65 _ 73 _ _ (by decide), k65 _ 72 _ _ (by decide), k65 _ 71 _ _ (by decide), k65 _ 70 _ _ (by decide)]
  · rw [pI_at, ← nI_succ]
  · intro c i p q r
    simp only [pI_1]
    rw [if_neg (by omega)]
    by_cases e5 : c = 75
    · subst e5; simp [r]
    by_cases e4 : c = 74
    · subst e4; simp [r]
    by_cases e3 : c = 73
    · subst e3; simp [r]
    by_cases e2 : c = 72
    · subst e2; simp [r]
    by_cases e1 : c = 71
    · subst e1; simp [r]
    by_cases e0 : c = 70
    · subst e0; simp [r]
    omega
  · simp [pI_1]
  · simp [pI_1]
  · simp [pI_1]
  · simp [pI_1]
  · simp [pI_1]
  · simp [pI_1]
theorem k_mule {B : Nat} {σ : ns_St} (h : Inv B σ) (x y z : Int32) : both B (g_N_mule σ 0 x y z) (fun σ => g_M_mule σ 65 x y z) := by
  obtain ⟨g1, g2, hR⟩ := h.1
  obtain ⟨E, H, a1, a2, a3, hG, a5, a6⟩ := h.2.1.get
  obtain ⟨f1, f2, f3, f4⟩ := h.2.1.fs
  have hN : g_N_mule σ 0 x y z = ite2 (yn ((0 : Int32) ≤ x ∧ x ≤ 5) = 0) (cl2 (g_N_refuse σ 0 (-2 : Int32)) fun r σ' => some (r, σ')) (ite2 (yn ((2 : Int32) ≤ y ∧ y ≤ 13) = 0) (cl2 (g_N_refuse σ 0 (-2 : Int32)) fun r σ' => some (r, σ')) (ite2 (yn ((0 : Int32) ≤ z ∧ z ≤ 9) = 0) (cl2 (g_N_refuse σ 0 (-2 : Int32)) fun r σ' => some (r, σ')) (cl2 (g_World_newMule σ 1) fun r40 σ39 => onul r40 (cl2 (g_N_refuse σ39 0 (-6 : Int32)) fun r43 σ42 => some (r43, σ42)) (fun b41 => grd (ns_kd b41 = 2) <| cl2 (g_Mule_become σ39 b41 x y z) fun r45 σ44 => drf (σ44.2.2 0 0) fun b46 => grd (ns_kd b46 = 7) <| some (((σ44.1 b46 2) - (1 : Int32)), σ44))))) := by
    unfold g_N_mule
    simp only [gk_0, e_isWithin, ev_cl2, hR, rg_0_0, ev_drf, gk_1]
  have hM : ∀ τ : ns_St, g_M_mule τ 65 x y z = ite2 (yn ((0 : Int32) ≤ x ∧ x ≤ 5) = 0) (cl2 (g_M_no τ 65 (-2 : Int32)) fun r σ' => some (r, σ')) (ite2 (yn ((2 : Int32) ≤ y ∧ y ≤ 13) = 0) (cl2 (g_M_no τ 65 (-2 : Int32)) fun r σ' => some (r, σ')) (ite2 (yn ((0 : Int32) ≤ z ∧ z ≤ 9) = 0) (cl2 (g_M_no τ 65 (-2 : Int32)) fun r σ' => some (r, σ')) (ite2 ((τ.1 65 5) = (6 : Int32)) (cl2 (g_M_no τ 65 (-6 : Int32)) fun r σ' => some (r, σ')) (cl2 (g_M_newMule τ 65 x y z) fun r36 σ35 => some (r36, σ35))))) := fun τ => by
    unfold g_M_mule
    simp only [gk_65, e_within, ev_cl2]
  have bad : ¬ ((0 : Int32) ≤ x ∧ x ≤ 5) ∨ ¬ ((2 : Int32) ≤ y ∧ y ≤ 13) ∨ ¬ ((0 : Int32) ≤ z ∧ z ≤ 9) → both B (g_N_mule σ 0 x y z) (fun σ => g_M_mule σ 65 x y z) := fun hb => by
    refine both.bad h hR (z := 0) (by decide) (c := -2) (by decide) (by decide) ?_ ?_
    · rw [hN]
      by_cases q1 : (0 : Int32) ≤ x ∧ x ≤ 5
      · by_cases q2 : (2 : Int32) ≤ y ∧ y ≤ 13
        · by_cases q3 : (0 : Int32) ≤ z ∧ z ≤ 9
          · exact absurd hb (fun q => q.elim (fun q => q q1) (fun q => q.elim (fun q => q q2) (fun q => q q3)))
          · rw [ite2_y q1, ite2_y q2, ite2_z q3]
        · rw [ite2_y q1, ite2_z q2]
      · rw [ite2_z q1]
    · show g_M_mule (rfN σ 0) 65 x y z = _
      rw [hM]
      by_cases q1 : (0 : Int32) ≤ x ∧ x ≤ 5
      · by_cases q2 : (2 : Int32) ≤ y ∧ y ≤ 13
        · by_cases q3 : (0 : Int32) ≤ z ∧ z ≤ 9
          · exact absurd hb (fun q => q.elim (fun q => q q1) (fun q => q.elim (fun q => q q2) (fun q => q q3)))
          · rw [ite2_y q1, ite2_y q2, ite2_z q3]
        · rw [ite2_y q1, ite2_z q2]
      · rw [ite2_z q1]
  by_cases q1 : (0 : Int32) ≤ x ∧ x ≤ 5
  · by_cases q2 : (2 : Int32) ≤ y ∧ y ≤ 13
    · by_cases q3 : (0 : Int32) ≤ z ∧ z ≤ 9
      · by_cases h6 : H = 6
        · subst h6
          refine both.bad h hR (z := 4) (by decide) (c := -6) (by decide) (by decide) ?_ ?_
          · rw [hN, ite2_y q1, ite2_y q2, ite2_y q3, e_newMuleF kd_1 a5, ev_cl2, ev_onn]
          · show g_M_mule (rfN σ 4) 65 x y z = _
            rw [hM, ite2_y q1, ite2_y q2, ite2_y q3, ite2_p (show (rfN σ 4).1 65 5 = 6 by rw [rfN, pI_ne _ _ _ (by decide)]; exact a2)]
        · obtain ⟨K, hK, rfl⟩ := ns_rng (n := 5) (by decide) q1
          obtain ⟨N, hNN, rfl⟩ := ns_rng (x := y) (n := 13) (by decide) ⟨Int32.le_trans (by decide) q2.1, q2.2⟩
          have hN2 : 2 ≤ N := (nI_leI (a := 2) (by decide) (by omega)).mp q2.1
          obtain ⟨O, hO, rfl⟩ := ns_rng (n := 9) (by decide) q3
          have hH : H < 6 := by omega
          obtain ⟨τ, e, on, mu⟩ := e_become (σ := ns_pI σ 1 2 (nI (H + 1))) (c := 4 + H) (N := N) (O := O) (kd_m4 H hH) hK
          have i1 : ∀ c, c ≠ 1 → c ≠ 4 + H → τ.1 c = σ.1 c := fun c p q => by rw [on.2 c q, pI_ne _ _ _ p]
          have j1 : τ.1 1 = (ns_pI σ 1 2 (nI (H + 1))).1 1 := on.2 1 (by omega)
          have hRτ : τ.2.2 = ns_rg g1 g2 := by rw [on.1]; exact hR
          obtain ⟨τ2, e2, m1, m2, m3, m4, m5, n0, n1, n2, n3, n4, n5⟩ := e_newMuleM (σ := τ) hRτ hH (by rw [i1 65 (by decide) (by omega)]; exact a2) (nI K) (nI N) (nI O)
          refine ⟨nI H, τ, τ2, ?_, ?_, ?_⟩
          · rw [hN, ite2_y q1, ite2_y q2, ite2_y q3, e_newMule hR (wk1 g1 g2) hH a5, ev_cl2, ev_ons, grd_t (kd_m4 H hH), show 1 + 3 + H = 4 + H by omega, e, ev_cl2, hRτ, rg_0_0, ev_drf, gk_1, j1, pI_at, nI_pred]
          · show g_M_mule τ 65 (nI K) (nI N) (nI O) = _
            rw [hM, ite2_y q1, ite2_y q2, ite2_y q3, ite2_n (show ¬ τ.1 65 5 = 6 from fun q => by rw [i1 65 (by decide) (by omega), a2] at q; exact h6 ((nI_eq (b := 6) (by omega) (by decide)).mp q)), e2, ev_cl2]
          · have c1 : ∀ c, c ≠ 1 → c ≠ 4 + H → ¬ (70 ≤ c ∧ c ≤ 75) → c ≠ 65 → τ2.1 c = σ.1 c := fun c p q r s => by rw [m2 c r s, i1 c p q]
            have c65 : ∀ k, k ≠ 5 → τ2.1 65 k = σ.1 65 k := fun k hk => by rw [m3 k hk, i1 65 (by decide) (by omega)]
            have c11 : ∀ k, k ≠ 2 → τ2.1 1 k = σ.1 1 k := fun k hk => by rw [m2 1 (by omega) (by omega), j1, pI_st _ _ _ hk]
            have cJ : τ2.2.1 = σ.2.1 := by rw [m1, on.1]; rfl
            refine h.wld (Nat.le_refl _) ⟨g1, g2, by rw [m1]; exact hRτ⟩ ?_ ⟨fun c hc => c1 c (by omega) (by omega) (by omega) (by omega), fun c _ => by rw [cJ], c65 15 (by decide), c65 22 (by decide)⟩ ?_
            · refine ⟨E, H + 1, by rw [c65 3 (by decide)]; exact a1, m4, by omega, ?_, ?_, ?_, ?_, ?_, ?_, ?_⟩
              · rw [m2 69 (by omega) (by omega), i1 69 (by decide) (by omega)]
                exact hG.cong (c1 2 (by decide) (by omega) (by omega) (by omega)) (by rw [cJ])
              · rw [m2 1 (by omega) (by omega), j1, pI_at]
              · rw [c11 3 (by decide), c65 12 (by decide)]; exact f1
              · rw [c65 12 (by decide)]; exact f2
              · rw [c11 4 (by decide), c65 13 (by decide)]; exact f3
              · rw [c11 5 (by decide), c65 14 (by decide)]; exact f4
              · intro j hj
                by_cases ej : j = H
                · subst ej
                  refine ⟨K, N, 0, 0, O, ⟨hK, hN2, by omega, by omega, by omega, hO, fun _ => by omega, fun _ => hNN⟩, ?_, n0, n1, n2, n3, n5⟩
                  rw [n4]
                  exact mu.cong (m2 (4 + j) (by omega) (by omega))
                · obtain ⟨K', N', A', C', O', b1, b2, b3, b4, b5, b6, b7⟩ := a6 j (by omega)
                  have t : ∀ c, 70 ≤ c → c ≤ 75 → τ2.1 c j = σ.1 c j := fun c p q => by rw [m5 c j p q ej, i1 c (by omega) (by omega)]
                  refine ⟨K', N', A', C', O', b1, ?_, by rw [t 70 (by omega) (by omega)]; exact b3, by rw [t 71 (by omega) (by omega)]; exact b4, by rw [t 72 (by omega) (by omega)]; exact b5, by rw [t 73 (by omega) (by omega)]; exact b6, by rw [t 75 (by omega) (by omega)]; exact b7⟩
                  rw [t 74 (by omega) (by omega)]
                  exact b2.cong (c1 (1 + 3 + j) (by omega) (by omega) (by omega) (by omega))
            · rw [a2, m4, nI_clamp (by omega), nI_clamp (by omega)]; omega
      · exact bad (Or.inr (Or.inr q3))
    · exact bad (Or.inr (Or.inl q2))
  · exact bad (Or.inl q1)
