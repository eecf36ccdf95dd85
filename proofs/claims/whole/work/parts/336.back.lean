/-! the reference's image again -/
def Ag (σ τ : ns_St) (a n : Nat) : Prop := τ.2 = σ.2 ∧ (∀ c, ¬ (69 ≤ c ∧ c ≤ 75) → τ.1 c = σ.1 c) ∧ (∀ p, p ≤ 60 → τ.1 69 p = σ.1 a p) ∧ ∀ j, j < n → (τ.1 70 j = σ.1 a (61 + j) ∧ τ.1 71 j = σ.1 a (67 + j) ∧ τ.1 72 j = σ.1 a (73 + j) ∧ τ.1 73 j = σ.1 a (79 + j) ∧ τ.1 74 j = σ.1 a (85 + j) ∧ τ.1 75 j = σ.1 a (91 + j))
def AgF (σ τ : ns_St) (a : Nat) : Prop := τ.2 = σ.2 ∧ (∀ c, ¬ (69 ≤ c ∧ c ≤ 75) → c ≠ 65 → τ.1 c = σ.1 c) ∧ (∀ k, k ≠ 3 → k ≠ 5 → k ≠ 12 → k ≠ 13 → k ≠ 14 → τ.1 65 k = σ.1 65 k) ∧ τ.1 65 3 = σ.1 a 97 ∧ τ.1 65 5 = σ.1 a 98 ∧ τ.1 65 12 = σ.1 a 99 ∧ τ.1 65 13 = σ.1 a 100 ∧ τ.1 65 14 = σ.1 a 101 ∧ (∀ p, p ≤ 60 → τ.1 69 p = σ.1 a p) ∧ ∀ j, j < 6 → (τ.1 70 j = σ.1 a (61 + j) ∧ τ.1 71 j = σ.1 a (67 + j) ∧ τ.1 72 j = σ.1 a (73 + j) ∧ τ.1 73 j = σ.1 a (79 + j) ∧ τ.1 74 j = σ.1 a (85 + j) ∧ τ.1 75 j = σ.1 a (91 + j))
theorem e_again25 {σ : ns_St} {g1 g2 : Option Nat} (hR : σ.2.2 = ns_rg g1 g2) {a : Nat} (ha : a = 78 ∨ a = 79) : ∀ (r k f : Nat) (τ : ns_St), r < f → k + r = 6 → Ag σ τ a k → ∃ τ', g_M_again_25 f τ 65 a (nI k) = some ((), τ') ∧ AgF σ τ' a := by
  have ln : ns_ln a = 102 := by rcases ha with rfl | rfl <;> rfl
  have inn : ∀ n, n < 102 → ns_in (nI n) (ns_ln a) := fun n hn => by rw [ln]; exact ns_inI hn (by decide)
  intro r
  induction r with
  | zero =>
    intro k f τ hf hk h
    obtain ⟨f, rfl⟩ : ∃ q, f = q + 1 := ⟨f - 1, by omega⟩
    have hk' : k = 6 := by omega
    subst hk'
    obtain ⟨c1, c2, c3, c4⟩ := h
    have ka : ∀ (ρ : ns_St) (i : Nat) (x : Int32), (ns_pI ρ 65 i x).1 a = ρ.1 a := fun ρ i x => pI_ne _ _ _ (by omega)
    have ta : τ.1 a = σ.1 a := c2 a (by omega)
    rw [g_M_again_25, ite2_p (show (6 : Int32) ≤ nI 6 by decide), grd_t (show ns_in (97 : Int32) (ns_ln a) from inn 97 (by omega)), ev_bnd, grd_t (show ns_in (98 : Int32) (ns_ln a) from inn 98 (by omega)), ev_bnd, grd_t (show ns_in (99 : Int32) (ns_ln a) from inn 99 (by omega)), ev_bnd, grd_t (show ns_in (100 : Int32) (ns_ln a) from inn 100 (by omega)), ev_bnd, grd_t (show ns_in (101 : Int32) (ns_ln a) from inn 101 (by omega)), ev_bnd]
    simp only [ka, ta]
    rw [show ns_ix (97 : Int32) = 97 by decide, show ns_ix (98 : Int32) = 98 by decide, show ns_ix (99 : Int32) = 99 by decide, show ns_ix (100 : Int32) = 100 by decide, show ns_ix (101 : Int32) = 101 by decide]
    have ko : ∀ (ρ : ns_St) (i : Nat) (x : Int32) (c : Nat), c ≠ 65 → (ns_pI ρ 65 i x).1 c = ρ.1 c := fun ρ i x c hc => pI_ne _ _ _ hc
    refine ⟨_, rfl, c1, fun c h1 h2 => ?_, fun k h1 h2 h3 h4 h5 => ?_, ?_, ?_, ?_, ?_, ?_, fun p hp => ?_, fun j hj => ?_⟩
    · simp only [ko _ _ _ _ h2]; exact c2 c h1
    · rw [pI_st _ _ _ h5, pI_st _ _ _ h4, pI_st _ _ _ h3, pI_st _ _ _ h2, pI_st _ _ _ h1, c2 65 (by omega)]
    · rw [pI_st _ _ _ (by decide), pI_st _ _ _ (by decide), pI_st _ _ _ (by decide), pI_st _ _ _ (by decide), pI_at]
    · rw [pI_st _ _ _ (by decide), pI_st _ _ _ (by decide), pI_st _ _ _ (by decide), pI_at]
    · rw [pI_st _ _ _ (by decide), pI_st _ _ _ (by decide), pI_at]
    · rw [pI_st _ _ _ (by decide), pI_at]
    · rw [pI_at]
    · simp only [ko _ _ _ 69 (by decide)]; exact c3 p hp
    · simp only [ko _ _ _ 70 (by decide), ko _ _ _ 71 (by decide), ko _ _ _ 72 (by decide), ko _ _ _ 73 (by decide), ko _ _ _ 74 (by decide), ko _ _ _ 75 (by decide)]; exact c4 j hj
  | succ r ih =>
    intro k f τ hf hk h
    obtain ⟨f, rfl⟩ : ∃ q, f = q + 1 := ⟨f - 1, by omega⟩
    obtain ⟨c1, c2, c3, c4⟩ := h
    have hRτ : τ.2.2 = ns_rg g1 g2 := by rw [c1]; exact hR
    have ik : ∀ c, ns_ln c = 6 → ns_in (nI k) (ns_ln c) := fun c hc => by rw [hc]; exact ns_inI (show k < 6 by omega) (by decide)
    have kk : ∀ (ρ : ns_St) (b i : Nat) (x : Int32), b ≤ 75 → (ns_pI ρ b i x).1 a = ρ.1 a := fun ρ b i x hb => pI_ne _ _ _ (by omega)
    have ta : τ.1 a = σ.1 a := c2 a (by omega)
    rw [g_M_again_25, ite2_n (show ¬ (6 : Int32) ≤ nI k from nI_ge (b := 6) (by omega) (by decide))]
    rw [show (61 : Int32) + nI k = nI (61 + k) from iadd 61 k rfl, show (67 : Int32) + nI k = nI (67 + k) from iadd 67 k rfl, show (73 : Int32) + nI k = nI (73 + k) from iadd 73 k rfl, show (79 : Int32) + nI k = nI (79 + k) from iadd 79 k rfl, show (85 : Int32) + nI k = nI (85 + k) from iadd 85 k rfl, show (91 : Int32) + nI k = nI (91 + k) from iadd 91 k rfl]
    simp only [pI_R, hRτ, rg_65_6, rg_65_7, rg_65_8, rg_65_9, rg_65_10, rg_65_11, ev_drf, gk_70, gk_71, gk_72, gk_73, gk_74, gk_75, grd_t (ik 70 rfl), grd_t (ik 71 rfl), grd_t (ik 72 rfl), grd_t (ik 73 rfl), grd_t (ik 74 rfl), grd_t (ik 75 rfl), grd_t (inn (61 + k) (by omega)), grd_t (inn (67 + k) (by omega)), grd_t (inn (73 + k) (by omega)), grd_t (inn (79 + k) (by omega)), grd_t (inn (85 + k) (by omega)), grd_t (inn (91 + k) (by omega)), ev_bnd]
    rw [ns_ixI (show k < 2 ^ 31 by omega), ns_ixI (show 61 + k < 2 ^ 31 by omega), ns_ixI (show 67 + k < 2 ^ 31 by omega), ns_ixI (show 73 + k < 2 ^ 31 by omega), ns_ixI (show 79 + k < 2 ^ 31 by omega), ns_ixI (show 85 + k < 2 ^ 31 by omega), ns_ixI (show 91 + k < 2 ^ 31 by omega), ← nI_succ]
    simp only [kk _ 70 _ _ (by decide), kk _ 71 _ _ (by decide), kk _ 72 _ _ (by decide), kk _ 73 _ _ (by decide), kk _ 74 _ _ (by decide), ta]
    refine ih (k + 1) f _ (by omega) (by omega) ⟨c1, fun c hc => ?_, fun p hp => ?_, fun j hj => ?_⟩
    · rw [pI_ne _ _ _ (by omega), pI_ne _ _ _ (by omega), pI_ne _ _ _ (by omega), pI_ne _ _ _ (by omega), pI_ne _ _ _ (by omega), pI_ne _ _ _ (by omega)]; exact c2 c hc
    · rw [pI_ne _ _ _ (by decide), pI_ne _ _ _ (by decide), pI_ne _ _ _ (by decide), pI_ne _ _ _ (by decide), pI_ne _ _ _ (by decide), pI_ne _ _ _ (by decide)]; exact c3 p hp
    · by_cases e : j = k
      · subst e
        refine ⟨?_, ?_, ?_, ?_, ?_, ?_⟩
        · rw [pI_ne _ _ _ (by decide), pI_ne _ _ _ (by decide), pI_ne _ _ _ (by decide), pI_ne _ _ _ (by decide), pI_ne _ _ _ (by decide), pI_at]
        · rw [pI_ne _ _ _ (by decide), pI_ne _ _ _ (by decide), pI_ne _ _ _ (by decide), pI_ne _ _ _ (by decide), pI_at]
        · rw [pI_ne _ _ _ (by decide), pI_ne _ _ _ (by decide), pI_ne _ _ _ (by decide), pI_at]
        · rw [pI_ne _ _ _ (by decide), pI_ne _ _ _ (by decide), pI_at]
        · rw [pI_ne _ _ _ (by decide), pI_at]
        · rw [pI_at]
      · obtain ⟨x1, x2, x3, x4, x5, x6⟩ := c4 j (by omega)
        refine ⟨?_, ?_, ?_, ?_, ?_, ?_⟩
        · rw [pI_ne _ _ _ (by decide), pI_ne _ _ _ (by decide), pI_ne _ _ _ (by decide), pI_ne _ _ _ (by decide), pI_ne _ _ _ (by decide), pI_st _ _ _ e]; exact x1
        · rw [pI_ne _ _ _ (by decide), pI_ne _ _ _ (by decide), pI_ne _ _ _ (by decide), pI_ne _ _ _ (by decide), pI_st _ _ _ e, pI_ne _ _ _ (by decide)]; exact x2
        · rw [pI_ne _ _ _ (by decide), pI_ne _ _ _ (by decide), pI_ne _ _ _ (by decide), pI_st _ _ _ e, pI_ne _ _ _ (by decide), pI_ne _ _ _ (by decide)]; exact x3
        · rw [pI_ne _ _ _ (by decide), pI_ne _ _ _ (by decide), pI_st _ _ _ e, pI_ne _ _ _ (by decide), pI_ne _ _ _ (by decide), pI_ne _ _ _ (by decide)]; exact x4
        · rw [pI_ne _ _ _ (by decide), pI_st _ _ _ e, pI_ne _ _ _ (by decide), pI_ne _ _ _ (by decide), pI_ne _ _ _ (by decide), pI_ne _ _ _ (by decide)]; exact x5
        · rw [pI_st _ _ _ e, pI_ne _ _ _ (by decide), pI_ne _ _ _ (by decide), pI_ne _ _ _ (by decide), pI_ne _ _ _ (by decide), pI_ne _ _ _ (by decide)]; exact x6
theorem e_again2 {σ : ns_St} {g1 g2 : Option Nat} (hR : σ.2.2 = ns_rg g1 g2) {a : Nat} (ha : a = 78 ∨ a = 79) : ∀ (r k f : Nat) (τ : ns_St), r < f → k + r = 61 → τ.2 = σ.2 → (∀ c, c ≠ 69 → τ.1 c = σ.1 c) → (∀ p, p < k → τ.1 69 p = σ.1 a p) → ∃ τ', g_M_again_2 f τ 65 a (nI k) = some ((), τ') ∧ AgF σ τ' a := by
  have ln : ns_ln a = 102 := by rcases ha with rfl | rfl <;> rfl
  intro r
  induction r with
  | zero =>
    intro k f τ hf hk h1 h2 h3
    obtain ⟨f, rfl⟩ : ∃ q, f = q + 1 := ⟨f - 1, by omega⟩
    rw [g_M_again_2, ite2_p (show (61 : Int32) ≤ nI k from nI_le (a := 61) (by omega) (by omega))]
    exact e_again25 hR ha 6 0 ns_F τ (by show 6 < 10000; omega) (by omega) ⟨h1, fun c hc => h2 c (by omega), fun p hp => h3 p (by omega), fun j hj => absurd hj (by omega)⟩
  | succ r ih =>
    intro k f τ hf hk h1 h2 h3
    obtain ⟨f, rfl⟩ : ∃ q, f = q + 1 := ⟨f - 1, by omega⟩
    have hRτ : τ.2.2 = ns_rg g1 g2 := by rw [h1]; exact hR
    have i1 : ns_in (nI k) (ns_ln a) := by rw [ln]; exact ns_inI (show k < 102 by omega) (by decide)
    have i2 : ns_in (nI k) (ns_ln 69) := ns_inI (show k < 61 by omega) (by decide)
    rw [g_M_again_2, ite2_n (show ¬ (61 : Int32) ≤ nI k from nI_ge (b := 61) (by omega) (by decide)), hRτ, rg_65_4, ev_drf, gk_69, grd_t i1, grd_t i2, ns_ixI (by omega), h2 a (by omega), ev_bnd, ev_bnd, ← nI_succ]
    refine ih (k + 1) f _ (by omega) (by omega) h1 (fun c hc => by rw [pI_ne _ _ _ hc]; exact h2 c hc) (fun p hp => ?_)
    by_cases e : p = k
    · subst e; rw [pI_at]
    · rw [pI_st _ _ _ e]; exact h3 p (by omega)
theorem e_again {σ : ns_St} {g1 g2 : Option Nat} (hR : σ.2.2 = ns_rg g1 g2) {a : Nat} (ha : a = 78 ∨ a = 79) : ∃ τ', g_M_again σ 65 a = some ((), τ') ∧ AgF σ τ' a := by
  have ka : ns_kd a = 10 := by rcases ha with rfl | rfl <;> rfl
  unfold g_M_again
  rw [gk_65, grd_t ka]
  exact e_again2 hR ha 61 0 ns_F σ (by show 61 < 10000; omega) (by omega) rfl (fun _ _ => rfl) (fun p hp => absurd hp (by omega))
/-! SHELVES, when there are fewer MULES -/
def shn (x h : Int32) : Int32 := if x < 10 + h then x else -1
theorem e_back27 {σ : ns_St} {g1 g2 : Option Nat} (hR : σ.2.2 = ns_rg g1 g2) {h : Int32} (hh : σ.1 1 2 = h) : ∀ (r k f : Nat) (τ : ns_St), r < f → k + r = 8 → τ.2 = σ.2 → (∀ c, (∀ s, s < 8 → c ≠ 49 + 2 * s) → τ.1 c = σ.1 c) → (∀ s i, s < 8 → i ≠ 0 → τ.1 (49 + 2 * s) i = σ.1 (49 + 2 * s) i) → (∀ s, s < 8 → τ.1 (49 + 2 * s) 0 = if s < k then shn (σ.1 (49 + 2 * s) 0) h else σ.1 (49 + 2 * s) 0) → ∃ τ', g_N_back_27 f τ 0 (nI k) = some (1, τ') ∧ τ'.2 = σ.2 ∧ (∀ c, (∀ s, s < 8 → c ≠ 49 + 2 * s) → τ'.1 c = σ.1 c) ∧ (∀ s i, s < 8 → i ≠ 0 → τ'.1 (49 + 2 * s) i = σ.1 (49 + 2 * s) i) ∧ ∀ s, s < 8 → τ'.1 (49 + 2 * s) 0 = shn (σ.1 (49 + 2 * s) 0) h := by
  intro r
  induction r with
  | zero =>
    intro k f τ hf hk h1 h2 h3 h4
    obtain ⟨f, rfl⟩ : ∃ q, f = q + 1 := ⟨f - 1, by omega⟩
    refine ⟨τ, ?_, h1, h2, h3, fun s hs => by rw [h4 s hs, if_pos (by omega)]⟩
    rw [g_N_back_27, ite2_p (show (8 : Int32) ≤ nI k from nI_le (a := 8) (by omega) (by omega))]
  | succ r ih =>
    intro k f τ hf hk h1 h2 h3 h4
    obtain ⟨f, rfl⟩ : ∃ q, f = q + 1 := ⟨f - 1, by omega⟩
    have hRτ : τ.2.2 = ns_rg g1 g2 := by rw [h1]; exact hR
    have i1 : ns_in (nI k) (ns_ln 28) := ns_inI (show k < 8 by omega) (by decide)
    have ks := kd_sh k (by omega)
    have p2 : τ.1 1 2 = h := by rw [h2 1 (fun s hs => by omega)]; exact hh
    have p0 := h4 k (by omega)
    rw [if_neg (by omega)] at p0
    rw [g_N_back_27, ite2_n (show ¬ (8 : Int32) ≤ nI k from nI_ge (b := 8) (by omega) (by decide)), hRτ, rg_0_3, ev_drf, gk_28, grd_t i1, ns_ixI (by omega), rg_28 g1 g2 (show k < 8 by omega), ev_drf, grd_t ks, rg_0_0, ev_drf, gk_1, p0, p2]
    by_cases q : σ.1 (49 + 2 * k) 0 < 10 + h
    · rw [ite2_p q, ev_bnd, ← nI_succ]
      refine ih (k + 1) f τ (by omega) (by omega) h1 h2 h3 (fun s hs => ?_)
      by_cases e : s = k
      · subst e; rw [p0, if_pos (by omega), shn, if_pos q]
      · rw [h4 s hs]
        by_cases g : s < k
        · rw [if_pos g, if_pos (by omega)]
        · rw [if_neg g, if_neg (by omega)]
    · rw [ite2_n q, ev_drf, gk_28, grd_t i1, rg_28 g1 g2 (show k < 8 by omega), ev_drf, grd_t ks, ev_bnd, ev_bnd, ← nI_succ]
      refine ih (k + 1) f _ (by omega) (by omega) h1 (fun c hc => by rw [pI_ne _ _ _ (hc k (by omega))]; exact h2 c hc) (fun s i hs hi => ?_) (fun s hs => ?_)
      · by_cases e : s = k
        · subst e; rw [pI_st _ _ _ hi]; exact h3 s i hs hi
        · rw [pI_ne _ _ _ (by omega)]; exact h3 s i hs hi
      · by_cases e : s = k
        · subst e; rw [pI_at, if_pos (by omega), shn, if_neg q]
        · rw [pI_ne _ _ _ (by omega), h4 s hs]
          by_cases g : s < k
          · rw [if_pos g, if_pos (by omega)]
          · rw [if_neg g, if_neg (by omega)]
theorem e_back24 {σ : ns_St} {g1 g2 : Option Nat} (hR : σ.2.2 = ns_rg g1 g2) {h : Int32} (hh : σ.1 65 5 = h) : ∀ (r k f : Nat) (τ : ns_St), r < f → k + r = 8 → τ.2 = σ.2 → (∀ c, c ≠ 66 → τ.1 c = σ.1 c) → (∀ s, s < 8 → τ.1 66 s = if s < k then shn (σ.1 66 s) h else σ.1 66 s) → ∃ τ', g_M_back_24 f τ 65 (nI k) = some (1, τ') ∧ τ'.2 = σ.2 ∧ (∀ c, c ≠ 66 → τ'.1 c = σ.1 c) ∧ ∀ s, s < 8 → τ'.1 66 s = shn (σ.1 66 s) h := by
  intro r
  induction r with
  | zero =>
    intro k f τ hf hk h1 h2 h4
    obtain ⟨f, rfl⟩ : ∃ q, f = q + 1 := ⟨f - 1, by omega⟩
    refine ⟨τ, ?_, h1, h2, fun s hs => by rw [h4 s hs, if_pos (by omega)]⟩
    rw [g_M_back_24, ite2_p (show (8 : Int32) ≤ nI k from nI_le (a := 8) (by omega) (by omega))]
  | succ r ih =>
    intro k f τ hf hk h1 h2 h4
    obtain ⟨f, rfl⟩ : ∃ q, f = q + 1 := ⟨f - 1, by omega⟩
    have hRτ : τ.2.2 = ns_rg g1 g2 := by rw [h1]; exact hR
    have i1 : ns_in (nI k) (ns_ln 66) := ns_inI (show k < 8 by omega) (by decide)
    have p2 : τ.1 65 5 = h := by rw [h2 65 (by omega)]; exact hh
    have p0 := h4 k (by omega)
    rw [if_neg (by omega)] at p0
    rw [g_M_back_24, ite2_n (show ¬ (8 : Int32) ≤ nI k from nI_ge (b := 8) (by omega) (by decide)), hRτ, rg_65_0, ev_drf, gk_66, grd_t i1, ns_ixI (by omega), p0, p2]
    by_cases q : σ.1 66 k < 10 + h
    · rw [ite2_p q, ev_bnd, ← nI_succ]
      refine ih (k + 1) f τ (by omega) (by omega) h1 h2 (fun s hs => ?_)
      by_cases e : s = k
      · subst e; rw [p0, if_pos (by omega), shn, if_pos q]
      · rw [h4 s hs]
        by_cases g : s < k
        · rw [if_pos g, if_pos (by omega)]
        · rw [if_neg g, if_neg (by omega)]
    · rw [ite2_n q, ev_drf, gk_66, grd_t i1, ev_bnd, ev_bnd, ← nI_succ]
      refine ih (k + 1) f _ (by omega) (by omega) h1 (fun c hc => by rw [pI_ne _ _ _ hc]; exact h2 c hc) (fun s hs => ?_)
      by_cases e : s = k
      · subst e; rw [pI_at, if_pos (by omega), shn, if_neg q]
      · rw [pI_st _ _ _ e, h4 s hs]
        by_cases g : s < k
        · rw [if_pos g, if_pos (by omega)]
        · rw [if_neg g, if_neg (by omega)]
theorem shn_ok {x : Int32} {H : Nat} (hH : H ≤ 6) (hd : Hd x) : shn x (nI H) = -1 ∨ (∃ z, z ≤ 4 ∧ shn x (nI H) = nI z) ∨ ∃ j, shn x (nI H) = nI (10 + j) ∧ j < H := by
  have e10 : (10 : Int32) + nI H = nI (10 + H) := iadd 10 H rfl
  unfold shn
  rw [e10]
  rcases hd with rfl | ⟨z, hz, rfl⟩ | ⟨j, hj, rfl⟩
  · left; split <;> rfl
  · right; left
    exact ⟨z, hz, if_pos (nI_lt (by omega) (by omega))⟩
  · by_cases q : j < H
    · right; right
      exact ⟨j, if_pos (nI_lt (by omega) (by omega)), q⟩
    · left
      exact if_neg (nI_nlt (by omega) (by omega))
theorem k_back {B : Nat} {σ : ns_St} (h : Inv B σ) : both B (g_N_back σ 0) (fun σ => g_M_back σ 65) := by
  obtain ⟨g1, g2, hR⟩ := h.1
  have h' := h
  obtain ⟨hrf, hw, ⟨im1, im2⟩, hsh, htp, hrs⟩ := h'
  rcases im2 with im2 | ⟨im2, hold⟩
  · refine both.bad h hR (z := 3) (by decide) (c := -5) (by decide) (by decide) ?_ ?_
    · unfold g_N_back
      rw [gk_0, ite2_p (by rw [im1]; exact im2)]
    · show g_M_back (rfN σ 3) 65 = _
      unfold g_M_back
      rw [gk_65, ite2_p (show (rfN σ 3).1 65 22 = 0 by rw [rfN, pI_ne _ _ _ (by decide)]; exact im2)]
  · obtain ⟨τ1, e1, cp⟩ := e_wtake (σ := σ) hR (wk1 g1 g2) (wk10 g1 g2) (by omega)
    have cpW := WR.cp cp hold
    obtain ⟨E, H, _, a2, a3, _, a5, _⟩ := hold
    obtain ⟨c1, c2, c3, c4, c5, c6, c7⟩ := cp
    have hR1 : τ1.2.2 = ns_rg g1 g2 := by rw [c1]; exact hR
    have hh1 : τ1.1 1 2 = nI H := by rw [c7 2 (by omega) (by omega)]; exact a5
    obtain ⟨τ2, e2, d1, d2, d3, d4⟩ := e_back27 hR1 hh1 8 0 ns_F τ1 (by show 8 < 10000; omega) (by omega) rfl (fun _ _ => rfl) (fun _ _ _ _ => rfl) (fun s _ => by rw [if_neg (by omega)])
    have hR2 : τ2.2.2 = ns_rg g1 g2 := by rw [d1]; exact hR1
    have q2 : ∀ c, 66 ≤ c → τ2.1 c = σ.1 c := fun c hc => by rw [d2 c (fun s hs => by omega)]; exact c2 c (by omega)
    have q65 : τ2.1 65 = σ.1 65 := by rw [d2 65 (fun s hs => by omega)]; exact c2 65 (by omega)
    obtain ⟨τ3, e3, ag⟩ := e_again hR2 (a := 78) (Or.inl rfl)
    obtain ⟨b1, b2, b3, b97, b98, b99, b100, b101, bp, bm⟩ := ag
    rw [q2 78 (by omega)] at b97 b98 b99 b100 b101 bp bm
    have hR3 : τ3.2.2 = ns_rg g1 g2 := by rw [b1]; exact hR2
    obtain ⟨τ4, e4, f1, f2, f3⟩ := e_back24 hR3 (h := nI H) (by rw [b98]; exact a2) 8 0 ns_F τ3 (by show 8 < 10000; omega) (by omega) rfl (fun _ _ => rfl) (fun s _ => by rw [if_neg (by omega)])
    have z2 : τ4.2 = τ1.2 := by rw [f1, b1, d1]
    have k4 : ∀ c, ¬ (69 ≤ c ∧ c ≤ 75) → c ≠ 65 → c ≠ 66 → τ4.1 c = τ2.1 c := fun c h1 h2 h3 => by rw [f2 c h3]; exact b2 c h1 h2
    have k5 : ∀ c, ¬ (1 ≤ c ∧ c < 10) → (∀ s, s < 8 → c ≠ 49 + 2 * s) → ¬ (69 ≤ c ∧ c ≤ 75) → c ≠ 65 → c ≠ 66 → τ4.1 c = σ.1 c := fun c h1 h2 h3 h4 h5 => by rw [k4 c h3 h4 h5, d2 c h2]; exact c2 c (by omega)
    have k65 : ∀ k, k ≠ 3 → k ≠ 5 → k ≠ 12 → k ≠ 13 → k ≠ 14 → τ4.1 65 k = σ.1 65 k := fun k h1 h2 h3 h4 h5 => by rw [f2 65 (by omega), b3 k h1 h2 h3 h4 h5, q65]
    refine ⟨1, τ2, τ4, ?_, ?_, ⟨g1, g2, by rw [z2]; exact hR1⟩, ?_, ?_, ?_, ?_, ?_⟩
    · unfold g_N_back
      rw [gk_0, ite2_n (by rw [im1, im2]; decide), hR, rg_0_0, ev_drf, gk_1, rg_0_1, ev_drf, gk_10, e1, ev_cl2]
      exact e2
    · show g_M_back τ2 65 = _
      unfold g_M_back
      rw [gk_65, ite2_n (by rw [q65, im2]; decide), hR2, rg_65_23, ev_drf, gk_78, e3, ev_cl2]
      exact e4
    · unfold Wnow
      rw [f2 65 (by omega), f2 69 (by omega), f2 70 (by omega), f2 71 (by omega), f2 72 (by omega), f2 73 (by omega), f2 74 (by omega), f2 75 (by omega), b97, b98, b99, b100, b101]
      refine WR.ar (th := σ.1 78) (k := fun m => σ.1 78 (61 + m)) (nu := fun m => σ.1 78 (67 + m)) (pl := fun m => σ.1 78 (73 + m)) (ct := fun m => σ.1 78 (79 + m)) (re := fun m => σ.1 78 (85 + m)) (ow := fun m => σ.1 78 (91 + m)) bp bm ?_
      exact WR.cong (fun c h1 h2 => by rw [k4 c (by omega) (by omega) (by omega)]; exact d2 c (fun s hs => by omega)) (by rw [z2]) cpW
    · exact h.2.2.1.cong (by rw [k5 0 (by omega) (fun s hs => by omega) (by omega) (by omega) (by omega)]) (k65 22 (by omega) (by omega) (by omega) (by omega) (by omega)) (fun c h1 h2 => k5 c (by omega) (fun s hs => by omega) (by omega) (by omega) (by omega)) (by rw [z2]; exact c3 11 (by omega)) (k5 78 (by omega) (fun s hs => by omega) (by omega) (by omega) (by omega))
    · intro s hs
      obtain ⟨x1, x2, x3, x4, x5⟩ := hsh s hs
      have y0 : τ4.1 (49 + 2 * s) 0 = shn (σ.1 (49 + 2 * s) 0) (nI H) := by rw [k4 _ (by omega) (by omega) (by omega), d4 s hs, c2 _ (by omega)]
      have y1 : τ4.1 (49 + 2 * s) 1 = σ.1 (49 + 2 * s) 1 := by rw [k4 _ (by omega) (by omega) (by omega), d3 s 1 hs (by omega), c2 _ (by omega)]
      have y66 : τ4.1 66 s = shn (σ.1 66 s) (nI H) := by rw [f3 s hs, b2 66 (by omega) (by omega), q2 66 (by omega)]
      have y67 : τ4.1 67 = σ.1 67 := by rw [k4 67 (by omega) (by omega) (by omega), q2 67 (by omega)]
      have yJ : ∀ c, c ≠ 2 → τ4.2.1 c = σ.2.1 c := fun c hc => by rw [z2]; exact c3 c (by omega)
      have y5 : τ4.1 65 5 = nI H := by rw [f2 65 (by omega), b98]; exact a2
      refine ⟨by rw [y0, y66, x1], by rw [y1, y67]; exact x2, by rw [y67]; exact x3, ?_, fun i hi => by rw [yJ _ (by omega), yJ _ (by omega)]; exact x5 i hi⟩
      rw [y66, y5, nI_clamp (by omega)]
      exact shn_ok a3 (h.hd hs)
    · exact htp.cong (k5 29 (by omega) (fun s hs => by omega) (by omega) (by omega) (by omega)) (k5 30 (by omega) (fun s hs => by omega) (by omega) (by omega) (by omega)) (k5 76 (by omega) (fun s hs => by omega) (by omega) (by omega) (by omega)) (k65 15 (by omega) (by omega) (by omega) (by omega) (by omega))
    · exact hrs.cong (k5 48 (by omega) (fun s hs => by omega) (by omega) (by omega) (by omega)) (k5 77 (by omega) (fun s hs => by omega) (by omega) (by omega) (by omega))
